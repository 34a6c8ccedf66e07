/-! the model's calls: between two, the best ones -/
def num (ws : List wd) (i : Nat) : Int := (ws.getD i ([], 0)).2
theorem num_get {ws : List wd} {i : Nat} {p : wd} (h : ws[i]? = some p) : num ws i = p.2 := by unfold num; rw [List.getD_eq_getElem?_getD, h]; rfl
theorem num_bd {ws : List wd} (hk : ∀ p ∈ ws, wk p) {i : Nat} (h : i < ws.length) : 0 ≤ num ws i ∧ num ws i ≤ 999999 := by
  rw [num_get (List.getElem?_eq_getElem h)]
  exact (hk _ (List.getElem_mem h)).2.2.2
def rgB (ws : List wd) (b e : Nat) (w : Int) : Int := if w = 0 then ((e - b : Nat) : Int) else if w = 1 then fi (fun s i => s + num ws i) b (e - b) 0 else if e ≤ b then -2 else if w = 4 then (b : Int) else if w = 2 then fi (fun s i => am_min s (num ws i)) b (e - b) 999999 else fi (fun s i => am_max s (num ws i)) b (e - b) 0
/-- LOW - HIGH, the sign between them at place n -/
def rgOK (t : List Int) (n : Nat) : Prop := n < t.length ∧ n ≤ 10 ∧ t.getD n 0 = 45 ∧ (∀ i, i < t.length → i ≠ n → isL (t.getD i 0) = true) ∧ t.length - n - 1 ≤ 10
def rgTo (ws : List wd) (u : List Int) : Nat := if u = [] then ws.length else ah ws u + (if nu ws u = none then 0 else 1)
noncomputable section
def sp_range (w : Int) (s : Sta) : Int × Sta := @ite _ ((0 ≤ w ∧ w ≤ 4) ∧ rgOK s.1 (le s.1 0)) (cdec _) (rgB s.2.1 (ah s.2.1 (spl s.1 0 (le s.1 0))) (rgTo s.2.1 (spl s.1 (le s.1 0 + 1) (s.1.length - (le s.1 0 + 1)))) w, noT s) (-1, noT s)
def bst (ws : List wd) (u : List Int) (p : Nat) : Int := fi (fun s i => if btr (num ws) p i = true then s + 1 else s) (ah ws u) ((sb ws u).length) 0
def sp_best (k : Int) (s : Sta) : Int × Sta := if (s.1.length ≤ 10 ∧ allL s.1) ∧ 0 ≤ k then (se (fun i => decide (bst s.2.1 (lw s.1) i = k)) (ah s.2.1 (lw s.1)) (sb s.2.1 (lw s.1)).length, noT s) else (-1, noT s)
end
theorem rg_le {t : List Int} {n : Nat} (h : rgOK t n) : le t 0 = n := by
  obtain ⟨h1, h2, h3, h4, h5⟩ := h
  have key : ∀ k, k ≤ n → le t (n - k) = n := by
    intro k
    induction k with
    | zero =>
      intro _
      rw [Nat.sub_zero, le_step h1, h3, if_neg (by decide)]
    | succ k ih =>
      intro hk
      rw [le_step (show n - (k + 1) < t.length by omega), h4 _ (by omega) (by omega), if_pos rfl, show n - (k + 1) + 1 = n - k by omega]
      exact ih (by omega)
  have := key n (Nat.le_refl _)
  rwa [Nat.sub_self] at this
theorem fi_congr {f f2 : Int → Nat → Int} : ∀ (n a : Nat) (acc : Int), (∀ s i, a ≤ i → i < a + n → f s i = f2 s i) → fi f a n acc = fi f2 a n acc
  | 0, a, acc, _ => rfl
  | n + 1, a, acc, h => by
    rw [fi, fi, h acc a (Nat.le_refl _) (by omega)]
    exact fi_congr n (a + 1) _ (fun s i h1 h2 => h s i (by omega) (by omega))
theorem fi_add {f : Int → Nat → Int} : ∀ (n k a : Nat) (acc : Int), fi f a (n + k) acc = fi f (a + n) k (fi f a n acc)
  | 0, k, a, acc => by rw [Nat.zero_add]; rfl
  | n + 1, k, a, acc => by
    rw [show n + 1 + k = (n + k) + 1 by omega, fi, fi, fi_add n k (a + 1), show a + (n + 1) = a + 1 + n by omega]
theorem fi_id {f : Int → Nat → Int} : ∀ (n a : Nat) (acc : Int), (∀ s i, a ≤ i → i < a + n → f s i = s) → fi f a n acc = acc
  | 0, a, acc, _ => rfl
  | n + 1, a, acc, h => by
    rw [fi, h acc a (Nat.le_refl _) (by omega)]
    exact fi_id n (a + 1) acc (fun s i h1 h2 => h s i (by omega) (by omega))
theorem ok_range {s : Sta} (h : okT s) (w : Int) : okT (sp_range w s).2 := by unfold sp_range; split <;> exact ok_noT h
theorem ok_best {s : Sta} (h : okT s) (k : Int) : okT (sp_best k s).2 := by unfold sp_best; split <;> exact ok_noT h
section MO
variable {m : Nat} {g : am_H} {S : Nat → Nat → Int} {t u : List Int} {ws bs ws' bs' : List wd} {hs : List (List wd × List wd)} {sh : Nat → Option (List wd)}
theorem md_between (H : MR S t ws bs hs sh) (O : okS t ws bs hs sh) {b e : Nat} (hb : b ≤ ws.length) (he : e ≤ ws.length) {w : Int} (hw : 0 ≤ w ∧ w ≤ 4) (d : Nat) : am_cI (d + 1) N_md_between [.inr (.inr (some (m))), .inl ((b : Int)), .inl ((e : Int)), .inl (w)] (MH m g S) = some (rgB ws b e w, MH m g S) := by
  have hl := O.2.1.2.2
  apply am_cI_of
  rw [en_md_between]
  by_cases c : b < e
  · have e1 : (e : Int) - (b : Int) = ((e - b : Nat) : Int) := by omega
    by_cases w0 : w = 0
    · unfold rgB
      rw [if_pos w0]
      (try dsimp only); rw [B_md_between_0]; (try simp (disch := omega) only [Option.bind_some, if_true, if_false, eq_self, not_true_eq_false, not_false_eq_true, am_w_id, if_pos, if_neg, fu_self, fu_ne, Int.toNat_natCast, e1]); rw [B_md_between_5]; (try simp (disch := omega) only [Option.bind_some, if_true, if_false, eq_self, not_true_eq_false, not_false_eq_true, am_w_id, if_pos, if_neg, fu_self, fu_ne, Int.toNat_natCast, e1]); rw [B_md_between_12]; (try simp (disch := omega) only [Option.bind_some, if_true, if_false, eq_self, not_true_eq_false, not_false_eq_true, am_w_id, if_pos, if_neg, fu_self, fu_ne, Int.toNat_natCast, e1]); rw [B_md_between_23]; (try simp (disch := omega) only [Option.bind_some, if_true, if_false, eq_self, not_true_eq_false, not_false_eq_true, am_w_id, if_pos, if_neg, fu_self, fu_ne, Int.toNat_natCast, e1]); rw [B_md_between_28]; (try simp (disch := omega) only [Option.bind_some, if_true, if_false, eq_self, not_true_eq_false, not_false_eq_true, am_w_id, if_pos, if_neg, fu_self, fu_ne, Int.toNat_natCast, e1]); rw [B_md_between_35]; (try simp (disch := omega) only [Option.bind_some, if_true, if_false, eq_self, not_true_eq_false, not_false_eq_true, am_w_id, if_pos, if_neg, fu_self, fu_ne, Int.toNat_natCast, e1])
    · by_cases w4 : w = 4
      · unfold rgB
        rw [if_neg w0, if_neg (by omega), if_neg (by omega), if_pos w4]
        (try dsimp only); rw [B_md_between_0]; (try simp (disch := omega) only [Option.bind_some, if_true, if_false, eq_self, not_true_eq_false, not_false_eq_true, am_w_id, if_pos, if_neg, fu_self, fu_ne, Int.toNat_natCast, e1]); rw [B_md_between_5]; (try simp (disch := omega) only [Option.bind_some, if_true, if_false, eq_self, not_true_eq_false, not_false_eq_true, am_w_id, if_pos, if_neg, fu_self, fu_ne, Int.toNat_natCast, e1]); rw [B_md_between_12]; (try simp (disch := omega) only [Option.bind_some, if_true, if_false, eq_self, not_true_eq_false, not_false_eq_true, am_w_id, if_pos, if_neg, fu_self, fu_ne, Int.toNat_natCast, e1]); rw [B_md_between_18]; (try simp (disch := omega) only [Option.bind_some, if_true, if_false, eq_self, not_true_eq_false, not_false_eq_true, am_w_id, if_pos, if_neg, fu_self, fu_ne, Int.toNat_natCast, e1]); rw [B_md_between_36]; (try simp (disch := omega) only [Option.bind_some, if_true, if_false, eq_self, not_true_eq_false, not_false_eq_true, am_w_id, if_pos, if_neg, fu_self, fu_ne, Int.toNat_natCast, e1]); rw [B_md_between_41]; (try simp (disch := omega) only [Option.bind_some, if_true, if_false, eq_self, not_true_eq_false, not_false_eq_true, am_w_id, if_pos, if_neg, fu_self, fu_ne, Int.toNat_natCast, e1])
      · have start : EV (d + 1) N_md_between T_md_between_0 [.inr (.inr (some (m))), .inl ((b : Int)), .inl ((e : Int)), .inl (w), am_nul, am_nul, am_nul, am_nul, am_nul, am_nul] [] (MH m g S) = EV (d + 1) N_md_between T_md_between_56 [.inr (.inr (some (m))), .inl ((b : Int)), .inl ((e : Int)), .inl (w), .inl (((e - b : Nat) : Int)), .inl (0), .inl (999999), .inl (0), .inl ((b : Int)), am_nul] [] (MH m g S) := by
          (try dsimp only); rw [B_md_between_0]; (try simp (disch := omega) only [Option.bind_some, if_true, if_false, eq_self, not_true_eq_false, not_false_eq_true, am_w_id, if_pos, if_neg, fu_self, fu_ne, Int.toNat_natCast, e1]); rw [B_md_between_5]; (try simp (disch := omega) only [Option.bind_some, if_true, if_false, eq_self, not_true_eq_false, not_false_eq_true, am_w_id, if_pos, if_neg, fu_self, fu_ne, Int.toNat_natCast, e1]); rw [B_md_between_12]; (try simp (disch := omega) only [Option.bind_some, if_true, if_false, eq_self, not_true_eq_false, not_false_eq_true, am_w_id, if_pos, if_neg, fu_self, fu_ne, Int.toNat_natCast, e1]); rw [B_md_between_18]; (try simp (disch := omega) only [Option.bind_some, if_true, if_false, eq_self, not_true_eq_false, not_false_eq_true, am_w_id, if_pos, if_neg, fu_self, fu_ne, Int.toNat_natCast, e1]); rw [B_md_between_36]; (try simp (disch := omega) only [Option.bind_some, if_true, if_false, eq_self, not_true_eq_false, not_false_eq_true, am_w_id, if_pos, if_neg, fu_self, fu_ne, Int.toNat_natCast, e1]); rw [B_md_between_43]; (try simp (disch := omega) only [Option.bind_some, if_true, if_false, eq_self, not_true_eq_false, not_false_eq_true, am_w_id, if_pos, if_neg, fu_self, fu_ne, Int.toNat_natCast, e1])
        rw [start]
        have main := am_loop (S := Nat × (Int × (Int × (Int × am_V)))) (F := fun s => EV (d + 1) N_md_between T_md_between_56 [.inr (.inr (some (m))), .inl ((b : Int)), .inl ((e : Int)), .inl (w), .inl (((e - b : Nat) : Int)), .inl (s.2.1), .inl (s.2.2.1), .inl (s.2.2.2.1), .inl ((s.1 : Int)), s.2.2.2.2] [] (MH m g S))
          (I := fun s => b ≤ s.1 ∧ s.1 ≤ e ∧ (0 ≤ s.2.1 ∧ s.2.1 ≤ 999999 * s.1) ∧ fi (fun s i => s + num ws i) s.1 (e - s.1) s.2.1 = fi (fun s i => s + num ws i) b (e - b) 0 ∧ fi (fun s i => am_min s (num ws i)) s.1 (e - s.1) s.2.2.1 = fi (fun s i => am_min s (num ws i)) b (e - b) 999999 ∧ fi (fun s i => am_max s (num ws i)) s.1 (e - s.1) s.2.2.2.1 = fi (fun s i => am_max s (num ws i)) b (e - b) 0)
          (R := fun o => o = some (some (.inl (rgB ws b e w)), MH m g S)) (fun s => e - s.1) ?_ (b, 0, 999999, 0, am_nul) ⟨Nat.le_refl _, by dsimp only; omega, ⟨Int.le_refl _, by dsimp only; omega⟩, rfl, rfl, rfl⟩
        · exact main
        · rintro ⟨k, s1, s2, s3, j9⟩ ⟨p1, p2, p3, p4, p5, p6⟩
          dsimp only at p1 p2 p3 p4 p5 p6 ⊢
          by_cases ck : k = e
          · left
            rw [fi_end (by omega)] at p4 p5 p6
            unfold rgB
            rw [if_neg w0, if_neg (show ¬ e ≤ b by omega), if_neg w4, ← p4, ← p5, ← p6]
            subst ck
            by_cases w1 : w = 1
            · rw [if_pos w1]
              (try dsimp only); rw [B_md_between_56]; (try simp (disch := omega) only [Option.bind_some, if_true, if_false, eq_self, not_true_eq_false, not_false_eq_true, am_w_id, if_pos, if_neg, fu_self, fu_ne, Int.toNat_natCast, w1]); rw [B_md_between_119]; (try simp (disch := omega) only [Option.bind_some, if_true, if_false, eq_self, not_true_eq_false, not_false_eq_true, am_w_id, if_pos, if_neg, fu_self, fu_ne, Int.toNat_natCast, w1]); rw [B_md_between_124]; (try simp (disch := omega) only [Option.bind_some, if_true, if_false, eq_self, not_true_eq_false, not_false_eq_true, am_w_id, if_pos, if_neg, fu_self, fu_ne, Int.toNat_natCast, w1]); rw [B_md_between_141]; (try simp (disch := omega) only [Option.bind_some, if_true, if_false, eq_self, not_true_eq_false, not_false_eq_true, am_w_id, if_pos, if_neg, fu_self, fu_ne, Int.toNat_natCast, w1])
            · rw [if_neg w1]
              by_cases w2 : w = 2
              · rw [if_pos w2]
                (try dsimp only); rw [B_md_between_56]; (try simp (disch := omega) only [Option.bind_some, if_true, if_false, eq_self, not_true_eq_false, not_false_eq_true, am_w_id, if_pos, if_neg, fu_self, fu_ne, Int.toNat_natCast, w1, w2]); rw [B_md_between_119]; (try simp (disch := omega) only [Option.bind_some, if_true, if_false, eq_self, not_true_eq_false, not_false_eq_true, am_w_id, if_pos, if_neg, fu_self, fu_ne, Int.toNat_natCast, w1, w2]); rw [B_md_between_129]; (try simp (disch := omega) only [Option.bind_some, if_true, if_false, eq_self, not_true_eq_false, not_false_eq_true, am_w_id, if_pos, if_neg, fu_self, fu_ne, Int.toNat_natCast, w1, w2]); rw [B_md_between_134]; (try simp (disch := omega) only [Option.bind_some, if_true, if_false, eq_self, not_true_eq_false, not_false_eq_true, am_w_id, if_pos, if_neg, fu_self, fu_ne, Int.toNat_natCast, w1, w2]); rw [B_md_between_141]; (try simp (disch := omega) only [Option.bind_some, if_true, if_false, eq_self, not_true_eq_false, not_false_eq_true, am_w_id, if_pos, if_neg, fu_self, fu_ne, Int.toNat_natCast, w1, w2])
              · rw [if_neg w2]
                (try dsimp only); rw [B_md_between_56]; (try simp (disch := omega) only [Option.bind_some, if_true, if_false, eq_self, not_true_eq_false, not_false_eq_true, am_w_id, if_pos, if_neg, fu_self, fu_ne, Int.toNat_natCast, w1, w2]); rw [B_md_between_119]; (try simp (disch := omega) only [Option.bind_some, if_true, if_false, eq_self, not_true_eq_false, not_false_eq_true, am_w_id, if_pos, if_neg, fu_self, fu_ne, Int.toNat_natCast, w1, w2]); rw [B_md_between_129]; (try simp (disch := omega) only [Option.bind_some, if_true, if_false, eq_self, not_true_eq_false, not_false_eq_true, am_w_id, if_pos, if_neg, fu_self, fu_ne, Int.toNat_natCast, w1, w2]); rw [B_md_between_139]; (try simp (disch := omega) only [Option.bind_some, if_true, if_false, eq_self, not_true_eq_false, not_false_eq_true, am_w_id, if_pos, if_neg, fu_self, fu_ne, Int.toNat_natCast, w1, w2]); rw [B_md_between_141]; (try simp (disch := omega) only [Option.bind_some, if_true, if_false, eq_self, not_true_eq_false, not_false_eq_true, am_w_id, if_pos, if_neg, fu_self, fu_ne, Int.toNat_natCast, w1, w2])
          · right
            have hget : ws[k]? = some (ws[k]'(by omega)) := List.getElem?_eq_getElem (by omega)
            have a1 := fun d => md_numberOf0 (m := m) (g := g) H hget d
            have hn := num_get hget
            rw [← hn] at a1
            have hnb := num_bd O.2.1.1 (show k < ws.length by omega)
            rw [fi_step (by omega)] at p4 p5 p6
            generalize num ws k = v at *
            have e9 : (k : Int) + 1 = ((k + 1 : Nat) : Int) := by omega
            have fin : ∀ s2', EV (d + 1) N_md_between T_md_between_95 [.inr (.inr (some (m))), .inl ((b : Int)), .inl ((e : Int)), .inl (w), .inl (((e - b : Nat) : Int)), .inl (s1 + v), .inl (s2), .inl (s3), .inl ((k : Int)), .inl (v)] [.inl (s2')] (MH m g S) = EV (d + 1) N_md_between T_md_between_56 [.inr (.inr (some (m))), .inl ((b : Int)), .inl ((e : Int)), .inl (w), .inl (((e - b : Nat) : Int)), .inl (s1 + v), .inl (s2'), .inl (am_max s3 v), .inl (((k + 1 : Nat) : Int)), .inl (v)] [] (MH m g S) := by
              intro s2'
              by_cases cm : s3 < v
              · have em : am_max s3 v = v := if_pos cm
                rw [em]
                (try dsimp only); rw [B_md_between_95]; (try simp (disch := omega) only [Option.bind_some, if_true, if_false, eq_self, not_true_eq_false, not_false_eq_true, am_w_id, if_pos, if_neg, fu_self, fu_ne, Int.toNat_natCast, e9]); rw [B_md_between_104]; (try simp (disch := omega) only [Option.bind_some, if_true, if_false, eq_self, not_true_eq_false, not_false_eq_true, am_w_id, if_pos, if_neg, fu_self, fu_ne, Int.toNat_natCast, e9]); rw [B_md_between_111]; (try simp (disch := omega) only [Option.bind_some, if_true, if_false, eq_self, not_true_eq_false, not_false_eq_true, am_w_id, if_pos, if_neg, fu_self, fu_ne, Int.toNat_natCast, e9])
              · have em : am_max s3 v = s3 := if_neg cm
                rw [em]
                (try dsimp only); rw [B_md_between_95]; (try simp (disch := omega) only [Option.bind_some, if_true, if_false, eq_self, not_true_eq_false, not_false_eq_true, am_w_id, if_pos, if_neg, fu_self, fu_ne, Int.toNat_natCast, e9]); rw [B_md_between_109]; (try simp (disch := omega) only [Option.bind_some, if_true, if_false, eq_self, not_true_eq_false, not_false_eq_true, am_w_id, if_pos, if_neg, fu_self, fu_ne, Int.toNat_natCast, e9]); rw [B_md_between_111]; (try simp (disch := omega) only [Option.bind_some, if_true, if_false, eq_self, not_true_eq_false, not_false_eq_true, am_w_id, if_pos, if_neg, fu_self, fu_ne, Int.toNat_natCast, e9])
            refine ⟨(k + 1, s1 + v, am_min s2 v, am_max s3 v, .inl v), ⟨by dsimp only; omega, by dsimp only; omega, ⟨by dsimp only; omega, by dsimp only; omega⟩, p4, p5, p6⟩, by dsimp only; omega, ?_⟩
            refine Eq.trans ?_ (fin (am_min s2 v))
            by_cases cm : v < s2
            · have em : am_min s2 v = v := if_pos cm
              rw [em]
              (try dsimp only); rw [B_md_between_56]; (try simp (disch := omega) only [Option.bind_some, if_true, if_false, eq_self, not_true_eq_false, not_false_eq_true, am_w_id, if_pos, if_neg, fu_self, fu_ne, Int.toNat_natCast, a1]); rw [B_md_between_62]; (try simp (disch := omega) only [Option.bind_some, if_true, if_false, eq_self, not_true_eq_false, not_false_eq_true, am_w_id, if_pos, if_neg, fu_self, fu_ne, Int.toNat_natCast, m_gR_2, m_l_2, m_s_2, a1]); rw [B_md_between_88]; (try simp (disch := omega) only [Option.bind_some, if_true, if_false, eq_self, not_true_eq_false, not_false_eq_true, am_w_id, if_pos, if_neg, fu_self, fu_ne, Int.toNat_natCast, a1])
            · have em : am_min s2 v = s2 := if_neg cm
              rw [em]
              (try dsimp only); rw [B_md_between_56]; (try simp (disch := omega) only [Option.bind_some, if_true, if_false, eq_self, not_true_eq_false, not_false_eq_true, am_w_id, if_pos, if_neg, fu_self, fu_ne, Int.toNat_natCast, a1]); rw [B_md_between_62]; (try simp (disch := omega) only [Option.bind_some, if_true, if_false, eq_self, not_true_eq_false, not_false_eq_true, am_w_id, if_pos, if_neg, fu_self, fu_ne, Int.toNat_natCast, m_gR_2, m_l_2, m_s_2, a1]); rw [B_md_between_93]; (try simp (disch := omega) only [Option.bind_some, if_true, if_false, eq_self, not_true_eq_false, not_false_eq_true, am_w_id, if_pos, if_neg, fu_self, fu_ne, Int.toNat_natCast, a1])
  · have e0 : e - b = 0 := by omega
    unfold rgB
    rw [e0]
    by_cases w0 : w = 0
    · rw [if_pos w0]
      (try dsimp only); rw [B_md_between_0]; (try simp (disch := omega) only [Option.bind_some, if_true, if_false, eq_self, not_true_eq_false, not_false_eq_true, am_w_id, if_pos, if_neg, fu_self, fu_ne, Int.toNat_natCast]); rw [B_md_between_11]; (try simp (disch := omega) only [Option.bind_some, if_true, if_false, eq_self, not_true_eq_false, not_false_eq_true, am_w_id, if_pos, if_neg, fu_self, fu_ne, Int.toNat_natCast]); rw [B_md_between_12]; (try simp (disch := omega) only [Option.bind_some, if_true, if_false, eq_self, not_true_eq_false, not_false_eq_true, am_w_id, if_pos, if_neg, fu_self, fu_ne, Int.toNat_natCast]); rw [B_md_between_23]; (try simp (disch := omega) only [Option.bind_some, if_true, if_false, eq_self, not_true_eq_false, not_false_eq_true, am_w_id, if_pos, if_neg, fu_self, fu_ne, Int.toNat_natCast]); rw [B_md_between_28]; (try simp (disch := omega) only [Option.bind_some, if_true, if_false, eq_self, not_true_eq_false, not_false_eq_true, am_w_id, if_pos, if_neg, fu_self, fu_ne, Int.toNat_natCast]); rw [B_md_between_35]; (try simp (disch := omega) only [Option.bind_some, if_true, if_false, eq_self, not_true_eq_false, not_false_eq_true, am_w_id, if_pos, if_neg, fu_self, fu_ne, Int.toNat_natCast])
      rfl
    · rw [if_neg w0]
      by_cases w1 : w = 1
      · rw [if_pos w1]
        (try dsimp only); rw [B_md_between_0]; (try simp (disch := omega) only [Option.bind_some, if_true, if_false, eq_self, not_true_eq_false, not_false_eq_true, am_w_id, if_pos, if_neg, fu_self, fu_ne, Int.toNat_natCast]); rw [B_md_between_11]; (try simp (disch := omega) only [Option.bind_some, if_true, if_false, eq_self, not_true_eq_false, not_false_eq_true, am_w_id, if_pos, if_neg, fu_self, fu_ne, Int.toNat_natCast]); rw [B_md_between_12]; (try simp (disch := omega) only [Option.bind_some, if_true, if_false, eq_self, not_true_eq_false, not_false_eq_true, am_w_id, if_pos, if_neg, fu_self, fu_ne, Int.toNat_natCast]); rw [B_md_between_18]; (try simp (disch := omega) only [Option.bind_some, if_true, if_false, eq_self, not_true_eq_false, not_false_eq_true, am_w_id, if_pos, if_neg, fu_self, fu_ne, Int.toNat_natCast]); rw [B_md_between_23]; (try simp (disch := omega) only [Option.bind_some, if_true, if_false, eq_self, not_true_eq_false, not_false_eq_true, am_w_id, if_pos, if_neg, fu_self, fu_ne, Int.toNat_natCast]); rw [B_md_between_28]; (try simp (disch := omega) only [Option.bind_some, if_true, if_false, eq_self, not_true_eq_false, not_false_eq_true, am_w_id, if_pos, if_neg, fu_self, fu_ne, Int.toNat_natCast]); rw [B_md_between_35]; (try simp (disch := omega) only [Option.bind_some, if_true, if_false, eq_self, not_true_eq_false, not_false_eq_true, am_w_id, if_pos, if_neg, fu_self, fu_ne, Int.toNat_natCast])
        rfl
      · rw [if_neg w1, if_pos (by omega)]
        (try dsimp only); rw [B_md_between_0]; (try simp (disch := omega) only [Option.bind_some, if_true, if_false, eq_self, not_true_eq_false, not_false_eq_true, am_w_id, if_pos, if_neg, fu_self, fu_ne, Int.toNat_natCast]); rw [B_md_between_11]; (try simp (disch := omega) only [Option.bind_some, if_true, if_false, eq_self, not_true_eq_false, not_false_eq_true, am_w_id, if_pos, if_neg, fu_self, fu_ne, Int.toNat_natCast]); rw [B_md_between_12]; (try simp (disch := omega) only [Option.bind_some, if_true, if_false, eq_self, not_true_eq_false, not_false_eq_true, am_w_id, if_pos, if_neg, fu_self, fu_ne, Int.toNat_natCast]); rw [B_md_between_18]; (try simp (disch := omega) only [Option.bind_some, if_true, if_false, eq_self, not_true_eq_false, not_false_eq_true, am_w_id, if_pos, if_neg, fu_self, fu_ne, Int.toNat_natCast]); rw [B_md_between_23]; (try simp (disch := omega) only [Option.bind_some, if_true, if_false, eq_self, not_true_eq_false, not_false_eq_true, am_w_id, if_pos, if_neg, fu_self, fu_ne, Int.toNat_natCast]); rw [B_md_between_33]; (try simp (disch := omega) only [Option.bind_some, if_true, if_false, eq_self, not_true_eq_false, not_false_eq_true, am_w_id, if_pos, if_neg, fu_self, fu_ne, Int.toNat_natCast]); rw [B_md_between_35]; (try simp (disch := omega) only [Option.bind_some, if_true, if_false, eq_self, not_true_eq_false, not_false_eq_true, am_w_id, if_pos, if_neg, fu_self, fu_ne, Int.toNat_natCast])
theorem md_begins (H : MR S t ws bs hs sh) (O : okS t ws bs hs sh) (T : toldR S u) (hu : u.length ≤ 10) {w : Nat} {p : wd} (hw : ws[w]? = some p) (d : Nat) : am_cI (d + 1) N_md_begins [.inr (.inr (some (m))), .inl ((w : Int))] (MH m g S) = some (if u.isPrefixOf p.1 = true then 1 else 0, MH m g S) := by
  have a0 := fun d => md_lengthOf0 (m := m) (g := g) H hw d
  have hp := (ok_get O.2.1 hw).2.2.1
  obtain ⟨T1, T2, T3⟩ := T
  apply am_cI_of
  by_cases c : u.length ≤ p.1.length
  · have key : ∃ r : Int, EV (d + 1) N_md_begins T_md_begins_20 [.inr (.inr (some (m))), .inl ((w : Int)), .inl (((0 : Nat) : Int))] [] (MH m g S) = some (some (.inl r), MH m g S) ∧ ((r = 1 ∧ u <+: p.1) ∨ (r = 0 ∧ ¬ u <+: p.1)) := by
      refine am_loop (S := Nat) (F := fun i => EV (d + 1) N_md_begins T_md_begins_20 [.inr (.inr (some (m))), .inl ((w : Int)), .inl ((i : Int))] [] (MH m g S)) (I := fun i => i ≤ u.length ∧ ∀ j, j < i → p.1.getD j 0 = u.getD j 0) (R := fun o => ∃ r : Int, o = some (some (.inl r), MH m g S) ∧ ((r = 1 ∧ u <+: p.1) ∨ (r = 0 ∧ ¬ u <+: p.1))) (fun i => u.length - i) ?_ 0 ⟨Nat.zero_le _, fun j hj => by simp at hj⟩
      rintro i ⟨p1, p2⟩
      by_cases c1 : i = u.length
      · left
        subst c1
        refine ⟨1, ?_, Or.inl ⟨rfl, ?_⟩⟩
        · (try dsimp only); rw [B_md_begins_20]; (try simp (disch := omega) only [Option.bind_some, if_true, if_false, eq_self, not_true_eq_false, not_false_eq_true, am_w_id, if_pos, if_neg, fu_self, fu_ne, Int.toNat_natCast, m_gI_8, m_p_8, T1]); rw [B_md_begins_55]; (try simp (disch := omega) only [Option.bind_some, if_true, if_false, eq_self, not_true_eq_false, not_false_eq_true, am_w_id, if_pos, if_neg, fu_self, fu_ne, Int.toNat_natCast, T1])
        · have : u = p.1.take u.length := getD_ext (by rw [List.length_take]; omega) (fun j hj => by
            rw [← p2 j hj]
            rw [List.getD_eq_getElem?_getD, List.getD_eq_getElem?_getD, List.getElem?_take_of_lt hj])
          rw [this]
          exact List.take_prefix _ _
      · have a1 := fun d => md_letterOf0 (m := m) (g := g) H hw (show i < 10 by omega) d
        have t3 := T3 i (by omega)
        by_cases c2 : p.1.getD i 0 = u.getD i 0
        · right
          refine ⟨i + 1, ⟨by omega, fun j hj => ?_⟩, by omega, ?_⟩
          · by_cases cj : j = i
            · subst cj; exact c2
            · exact p2 j (by omega)
          · (try dsimp only); rw [B_md_begins_20]; (try simp (disch := omega) only [Option.bind_some, if_true, if_false, eq_self, not_true_eq_false, not_false_eq_true, am_w_id, if_pos, if_neg, fu_self, fu_ne, Int.toNat_natCast, m_gI_8, m_p_8, T1, a1, t3, c2]); rw [B_md_begins_28]; (try simp (disch := omega) only [Option.bind_some, if_true, if_false, eq_self, not_true_eq_false, not_false_eq_true, am_w_id, if_pos, if_neg, fu_self, fu_ne, Int.toNat_natCast, m_gR_2, m_l_2, m_s_2, m_gR_7, m_l_7, m_s_7, T1, a1, t3, c2]); rw [B_md_begins_49]; (try simp (disch := omega) only [Option.bind_some, if_true, if_false, eq_self, not_true_eq_false, not_false_eq_true, am_w_id, if_pos, if_neg, fu_self, fu_ne, Int.toNat_natCast, T1, a1, t3, c2])
            rfl
        · left
          refine ⟨0, ?_, Or.inr ⟨rfl, fun e => c2 (pf_getD e (by omega))⟩⟩
          (try dsimp only); rw [B_md_begins_20]; (try simp (disch := omega) only [Option.bind_some, if_true, if_false, eq_self, not_true_eq_false, not_false_eq_true, am_w_id, if_pos, if_neg, fu_self, fu_ne, Int.toNat_natCast, m_gI_8, m_p_8, T1, a1, t3, c2]); rw [B_md_begins_28]; (try simp (disch := omega) only [Option.bind_some, if_true, if_false, eq_self, not_true_eq_false, not_false_eq_true, am_w_id, if_pos, if_neg, fu_self, fu_ne, Int.toNat_natCast, m_gR_2, m_l_2, m_s_2, m_gR_7, m_l_7, m_s_7, T1, a1, t3, c2]); rw [B_md_begins_47]; (try simp (disch := omega) only [Option.bind_some, if_true, if_false, eq_self, not_true_eq_false, not_false_eq_true, am_w_id, if_pos, if_neg, fu_self, fu_ne, Int.toNat_natCast, T1, a1, t3, c2])
    obtain ⟨r, e, hr⟩ := key
    (try dsimp only); rw [en_md_begins]; (try simp (disch := omega) only [Option.bind_some, if_true, if_false, eq_self, not_true_eq_false, not_false_eq_true, am_w_id, if_pos, if_neg, fu_self, fu_ne, Int.toNat_natCast, a0, T1]); rw [B_md_begins_0]; (try simp (disch := omega) only [Option.bind_some, if_true, if_false, eq_self, not_true_eq_false, not_false_eq_true, am_w_id, if_pos, if_neg, fu_self, fu_ne, Int.toNat_natCast, m_gR_2, m_l_2, m_s_2, m_gI_8, m_p_8, a0, T1]); rw [B_md_begins_18]; (try simp (disch := omega) only [Option.bind_some, if_true, if_false, eq_self, not_true_eq_false, not_false_eq_true, am_w_id, if_pos, if_neg, fu_self, fu_ne, Int.toNat_natCast, a0, T1])
    refine e.trans ?_
    rcases hr with ⟨h1, h2⟩ | ⟨h1, h2⟩
    · rw [if_pos (List.isPrefixOf_iff_prefix.mpr h2), h1]
    · rw [if_neg (fun h => h2 (List.isPrefixOf_iff_prefix.mp h)), h1]
  · rw [if_neg (fun h => c (List.isPrefixOf_iff_prefix.mp h).length_le)]
    (try dsimp only); rw [en_md_begins]; (try simp (disch := omega) only [Option.bind_some, if_true, if_false, eq_self, not_true_eq_false, not_false_eq_true, am_w_id, if_pos, if_neg, fu_self, fu_ne, Int.toNat_natCast, a0, T1]); rw [B_md_begins_0]; (try simp (disch := omega) only [Option.bind_some, if_true, if_false, eq_self, not_true_eq_false, not_false_eq_true, am_w_id, if_pos, if_neg, fu_self, fu_ne, Int.toNat_natCast, m_gR_2, m_l_2, m_s_2, m_gI_8, m_p_8, a0, T1]); rw [B_md_begins_16]; (try simp (disch := omega) only [Option.bind_some, if_true, if_false, eq_self, not_true_eq_false, not_false_eq_true, am_w_id, if_pos, if_neg, fu_self, fu_ne, Int.toNat_natCast, a0, T1])
/-- counting where words begin with u is counting there -/
theorem bst_all (hs : so ws) (u : List Int) (p : Nat) : fi (fun s i => if u.isPrefixOf (ws.getD i ([], 0)).1 = true ∧ btr (num ws) p i = true then s + 1 else s) 0 ws.length 0 = bst ws u p := by
  have hle := sb_le hs u
  have hpre : ∀ i, i < ws.length → (u.isPrefixOf (ws.getD i ([], 0)).1 = true ↔ ah ws u ≤ i ∧ i < ah ws u + (sb ws u).length) := fun i hi => by
    have hg : ws[i]? = some ws[i] := List.getElem?_eq_getElem hi
    rw [List.isPrefixOf_iff_prefix, List.getD_eq_getElem?_getD, hg, Option.getD_some]
    exact sb_iff hs u hg
  unfold bst
  rw [show ws.length = ah ws u + ((sb ws u).length + (ws.length - (ah ws u + (sb ws u).length))) by omega, fi_add, fi_add, Nat.zero_add]
  rw [fi_id (ah ws u) 0 0 (fun s i _ h2 => by rw [if_neg (fun h => by have := (hpre i (by omega)).mp h.1; omega)])]
  rw [fi_id (ws.length - (ah ws u + (sb ws u).length)) _ _ (fun s i h1 h2 => by rw [if_neg (fun h => by have := (hpre i (by omega)).mp h.1; omega)])]
  exact fi_congr _ _ _ (fun s i h1 h2 => by
    have hp := (hpre i (by omega)).mpr ⟨h1, h2⟩
    by_cases c : btr (num ws) p i = true
    · rw [if_pos c, if_pos ⟨hp, c⟩]
    · rw [if_neg c, if_neg (fun h => c h.2)])
theorem md_better (H : MR S t ws bs hs sh) (O : okS t ws bs hs sh) (T : toldR S u) (hu : u.length ≤ 10) {w : Nat} (hw : w < ws.length) (d : Nat) : am_cI (d + 2) N_md_better [.inr (.inr (some (m))), .inl ((w : Int))] (MH m g S) = some (bst ws u w, MH m g S) := by
  have h1 := H.2.1.1
  have hl := O.2.1.2.2
  rw [← bst_all O.2.1.2.1]
  generalize hres : fi (fun s i => if u.isPrefixOf (ws.getD i ([], 0)).1 = true ∧ btr (num ws) w i = true then s + 1 else s) 0 ws.length 0 = res
  have hgw : ws[w]? = some ws[w] := List.getElem?_eq_getElem hw
  have a2 := fun d => md_numberOf0 (m := m) (g := g) H hgw d
  rw [← num_get hgw] at a2
  have hnw := num_bd O.2.1.1 hw
  apply am_cI_of
  rw [en_md_better, B_md_better_0]
  refine am_loop (S := Nat × (Int × am_V)) (F := fun s => EV (d + 2) N_md_better T_md_better_4 [.inr (.inr (some (m))), .inl ((w : Int)), .inl (s.2.1), .inl ((s.1 : Int)), s.2.2] [] (MH m g S)) (I := fun s => s.1 ≤ ws.length ∧ 0 ≤ s.2.1 ∧ s.2.1 ≤ s.1 ∧ fi (fun s i => if u.isPrefixOf (ws.getD i ([], 0)).1 = true ∧ btr (num ws) w i = true then s + 1 else s) s.1 (ws.length - s.1) s.2.1 = res)
    (R := fun o => o = some (some (.inl res), MH m g S)) (fun s => ws.length - s.1) ?_ (0, 0, am_nul) ⟨Nat.zero_le _, Int.le_refl _, Int.le_refl _, hres⟩
  rintro ⟨k, b, j4⟩ ⟨p1, p2, p3, p4⟩
  dsimp only at p1 p2 p3 p4 ⊢
  by_cases ck : k = ws.length
  · left
    rw [fi_end (by omega)] at p4
    subst ck
    (try dsimp only); rw [B_md_better_4]; (try simp (disch := omega) only [Option.bind_some, if_true, if_false, eq_self, not_true_eq_false, not_false_eq_true, am_w_id, if_pos, if_neg, fu_self, fu_ne, Int.toNat_natCast, m_gR_2, m_l_2, m_s_2, h1, Int.reduceToNat]); rw [B_md_better_72]; (try simp (disch := omega) only [Option.bind_some, if_true, if_false, eq_self, not_true_eq_false, not_false_eq_true, am_w_id, if_pos, if_neg, fu_self, fu_ne, Int.toNat_natCast, h1, Int.reduceToNat])
    rw [p4]
  · right
    have hk : k < ws.length := by omega
    have hgk : ws[k]? = some ws[k] := List.getElem?_eq_getElem hk
    have a1 := fun d => md_numberOf0 (m := m) (g := g) H hgk d
    rw [← num_get hgk] at a1
    have a3 := fun d => md_begins (m := m) (g := g) H O T hu hgk d
    have hgd : ws.getD k ([], 0) = ws[k] := by rw [List.getD_eq_getElem?_getD, hgk]; rfl
    have hnk := num_bd O.2.1.1 hk
    rw [fi_step (by omega), hgd] at p4
    have e9 : (k : Int) + 1 = ((k + 1 : Nat) : Int) := by omega
    by_cases c : u.isPrefixOf ws[k].1 = true
    · simp only [if_pos c] at a3
      have hbt : btr (num ws) w k = true ↔ 0 < num ws k - num ws w ∨ (num ws k - num ws w = 0 ∧ k < w) := by
        unfold btr
        simp only [Bool.or_eq_true, Bool.and_eq_true, decide_eq_true_eq]
        omega
      by_cases c1 : 0 < num ws k - num ws w
      · rw [if_pos ⟨c, hbt.mpr (Or.inl c1)⟩] at p4
        refine ⟨(k + 1, b + 1, .inl (num ws k - num ws w)), ⟨by dsimp only; omega, by dsimp only; omega, by dsimp only; omega, p4⟩, by dsimp only; omega, ?_⟩
        (try dsimp only); rw [B_md_better_4]; (try simp (disch := omega) only [Option.bind_some, if_true, if_false, eq_self, not_true_eq_false, not_false_eq_true, am_w_id, if_pos, if_neg, fu_self, fu_ne, Int.toNat_natCast, m_gR_2, m_l_2, m_s_2, h1, a1, a2, a3, e9, Int.reduceToNat, show ¬ (1 : Int) = 0 by decide]); rw [B_md_better_14]; (try simp (disch := omega) only [Option.bind_some, if_true, if_false, eq_self, not_true_eq_false, not_false_eq_true, am_w_id, if_pos, if_neg, fu_self, fu_ne, Int.toNat_natCast, m_gR_2, m_l_2, m_s_2, m_O, h1, a1, a2, a3, e9, Int.reduceToNat, show ¬ (1 : Int) = 0 by decide]); rw [B_md_better_44]; (try simp (disch := omega) only [Option.bind_some, if_true, if_false, eq_self, not_true_eq_false, not_false_eq_true, am_w_id, if_pos, if_neg, fu_self, fu_ne, Int.toNat_natCast, h1, a1, a2, a3, e9, Int.reduceToNat, show ¬ (1 : Int) = 0 by decide]); rw [B_md_better_59]; (try simp (disch := omega) only [Option.bind_some, if_true, if_false, eq_self, not_true_eq_false, not_false_eq_true, am_w_id, if_pos, if_neg, fu_self, fu_ne, Int.toNat_natCast, h1, a1, a2, a3, e9, Int.reduceToNat, show ¬ (1 : Int) = 0 by decide]); rw [B_md_better_64]; (try simp (disch := omega) only [Option.bind_some, if_true, if_false, eq_self, not_true_eq_false, not_false_eq_true, am_w_id, if_pos, if_neg, fu_self, fu_ne, Int.toNat_natCast, h1, a1, a2, a3, e9, Int.reduceToNat, show ¬ (1 : Int) = 0 by decide])
      · by_cases c2 : num ws k - num ws w = 0
        · by_cases c3 : k < w
          · rw [if_pos ⟨c, hbt.mpr (Or.inr ⟨c2, c3⟩)⟩] at p4
            refine ⟨(k + 1, b + 1, .inl (num ws k - num ws w)), ⟨by dsimp only; omega, by dsimp only; omega, by dsimp only; omega, p4⟩, by dsimp only; omega, ?_⟩
            (try dsimp only); rw [B_md_better_4]; (try simp (disch := omega) only [Option.bind_some, if_true, if_false, eq_self, not_true_eq_false, not_false_eq_true, am_w_id, if_pos, if_neg, fu_self, fu_ne, Int.toNat_natCast, m_gR_2, m_l_2, m_s_2, h1, a1, a2, a3, e9, Int.reduceToNat, show ¬ (1 : Int) = 0 by decide]); rw [B_md_better_14]; (try simp (disch := omega) only [Option.bind_some, if_true, if_false, eq_self, not_true_eq_false, not_false_eq_true, am_w_id, if_pos, if_neg, fu_self, fu_ne, Int.toNat_natCast, m_gR_2, m_l_2, m_s_2, m_O, h1, a1, a2, a3, e9, Int.reduceToNat, show ¬ (1 : Int) = 0 by decide]); rw [B_md_better_44]; (try simp (disch := omega) only [Option.bind_some, if_true, if_false, eq_self, not_true_eq_false, not_false_eq_true, am_w_id, if_pos, if_neg, fu_self, fu_ne, Int.toNat_natCast, h1, a1, a2, a3, e9, Int.reduceToNat, show ¬ (1 : Int) = 0 by decide]); rw [B_md_better_49]; (try simp (disch := omega) only [Option.bind_some, if_true, if_false, eq_self, not_true_eq_false, not_false_eq_true, am_w_id, if_pos, if_neg, fu_self, fu_ne, Int.toNat_natCast, h1, a1, a2, a3, e9, Int.reduceToNat, show ¬ (1 : Int) = 0 by decide]); rw [B_md_better_54]; (try simp (disch := omega) only [Option.bind_some, if_true, if_false, eq_self, not_true_eq_false, not_false_eq_true, am_w_id, if_pos, if_neg, fu_self, fu_ne, Int.toNat_natCast, h1, a1, a2, a3, e9, Int.reduceToNat, show ¬ (1 : Int) = 0 by decide]); rw [B_md_better_59]; (try simp (disch := omega) only [Option.bind_some, if_true, if_false, eq_self, not_true_eq_false, not_false_eq_true, am_w_id, if_pos, if_neg, fu_self, fu_ne, Int.toNat_natCast, h1, a1, a2, a3, e9, Int.reduceToNat, show ¬ (1 : Int) = 0 by decide]); rw [B_md_better_64]; (try simp (disch := omega) only [Option.bind_some, if_true, if_false, eq_self, not_true_eq_false, not_false_eq_true, am_w_id, if_pos, if_neg, fu_self, fu_ne, Int.toNat_natCast, h1, a1, a2, a3, e9, Int.reduceToNat, show ¬ (1 : Int) = 0 by decide])
          · rw [if_neg (fun h => by have := hbt.mp h.2; omega)] at p4
            refine ⟨(k + 1, b, .inl (num ws k - num ws w)), ⟨by dsimp only; omega, p2, by dsimp only; omega, p4⟩, by dsimp only; omega, ?_⟩
            (try dsimp only); rw [B_md_better_4]; (try simp (disch := omega) only [Option.bind_some, if_true, if_false, eq_self, not_true_eq_false, not_false_eq_true, am_w_id, if_pos, if_neg, fu_self, fu_ne, Int.toNat_natCast, m_gR_2, m_l_2, m_s_2, h1, a1, a2, a3, e9, Int.add_zero, Int.reduceToNat, show ¬ (1 : Int) = 0 by decide]); rw [B_md_better_14]; (try simp (disch := omega) only [Option.bind_some, if_true, if_false, eq_self, not_true_eq_false, not_false_eq_true, am_w_id, if_pos, if_neg, fu_self, fu_ne, Int.toNat_natCast, m_gR_2, m_l_2, m_s_2, m_O, h1, a1, a2, a3, e9, Int.add_zero, Int.reduceToNat, show ¬ (1 : Int) = 0 by decide]); rw [B_md_better_44]; (try simp (disch := omega) only [Option.bind_some, if_true, if_false, eq_self, not_true_eq_false, not_false_eq_true, am_w_id, if_pos, if_neg, fu_self, fu_ne, Int.toNat_natCast, h1, a1, a2, a3, e9, Int.add_zero, Int.reduceToNat, show ¬ (1 : Int) = 0 by decide]); rw [B_md_better_49]; (try simp (disch := omega) only [Option.bind_some, if_true, if_false, eq_self, not_true_eq_false, not_false_eq_true, am_w_id, if_pos, if_neg, fu_self, fu_ne, Int.toNat_natCast, h1, a1, a2, a3, e9, Int.add_zero, Int.reduceToNat, show ¬ (1 : Int) = 0 by decide]); rw [B_md_better_54]; (try simp (disch := omega) only [Option.bind_some, if_true, if_false, eq_self, not_true_eq_false, not_false_eq_true, am_w_id, if_pos, if_neg, fu_self, fu_ne, Int.toNat_natCast, h1, a1, a2, a3, e9, Int.add_zero, Int.reduceToNat, show ¬ (1 : Int) = 0 by decide]); rw [B_md_better_63]; (try simp (disch := omega) only [Option.bind_some, if_true, if_false, eq_self, not_true_eq_false, not_false_eq_true, am_w_id, if_pos, if_neg, fu_self, fu_ne, Int.toNat_natCast, h1, a1, a2, a3, e9, Int.add_zero, Int.reduceToNat, show ¬ (1 : Int) = 0 by decide]); rw [B_md_better_64]; (try simp (disch := omega) only [Option.bind_some, if_true, if_false, eq_self, not_true_eq_false, not_false_eq_true, am_w_id, if_pos, if_neg, fu_self, fu_ne, Int.toNat_natCast, h1, a1, a2, a3, e9, Int.add_zero, Int.reduceToNat, show ¬ (1 : Int) = 0 by decide])
        · rw [if_neg (fun h => by have := hbt.mp h.2; omega)] at p4
          refine ⟨(k + 1, b, .inl (num ws k - num ws w)), ⟨by dsimp only; omega, p2, by dsimp only; omega, p4⟩, by dsimp only; omega, ?_⟩
          (try dsimp only); rw [B_md_better_4]; (try simp (disch := omega) only [Option.bind_some, if_true, if_false, eq_self, not_true_eq_false, not_false_eq_true, am_w_id, if_pos, if_neg, fu_self, fu_ne, Int.toNat_natCast, m_gR_2, m_l_2, m_s_2, h1, a1, a2, a3, e9, Int.add_zero, Int.reduceToNat, show ¬ (1 : Int) = 0 by decide]); rw [B_md_better_14]; (try simp (disch := omega) only [Option.bind_some, if_true, if_false, eq_self, not_true_eq_false, not_false_eq_true, am_w_id, if_pos, if_neg, fu_self, fu_ne, Int.toNat_natCast, m_gR_2, m_l_2, m_s_2, m_O, h1, a1, a2, a3, e9, Int.add_zero, Int.reduceToNat, show ¬ (1 : Int) = 0 by decide]); rw [B_md_better_44]; (try simp (disch := omega) only [Option.bind_some, if_true, if_false, eq_self, not_true_eq_false, not_false_eq_true, am_w_id, if_pos, if_neg, fu_self, fu_ne, Int.toNat_natCast, h1, a1, a2, a3, e9, Int.add_zero, Int.reduceToNat, show ¬ (1 : Int) = 0 by decide]); rw [B_md_better_49]; (try simp (disch := omega) only [Option.bind_some, if_true, if_false, eq_self, not_true_eq_false, not_false_eq_true, am_w_id, if_pos, if_neg, fu_self, fu_ne, Int.toNat_natCast, h1, a1, a2, a3, e9, Int.add_zero, Int.reduceToNat, show ¬ (1 : Int) = 0 by decide]); rw [B_md_better_63]; (try simp (disch := omega) only [Option.bind_some, if_true, if_false, eq_self, not_true_eq_false, not_false_eq_true, am_w_id, if_pos, if_neg, fu_self, fu_ne, Int.toNat_natCast, h1, a1, a2, a3, e9, Int.add_zero, Int.reduceToNat, show ¬ (1 : Int) = 0 by decide]); rw [B_md_better_64]; (try simp (disch := omega) only [Option.bind_some, if_true, if_false, eq_self, not_true_eq_false, not_false_eq_true, am_w_id, if_pos, if_neg, fu_self, fu_ne, Int.toNat_natCast, h1, a1, a2, a3, e9, Int.add_zero, Int.reduceToNat, show ¬ (1 : Int) = 0 by decide])
    · simp only [if_neg c] at a3
      rw [if_neg (fun h => c h.1)] at p4
      refine ⟨(k + 1, b, .inl (num ws k - num ws w)), ⟨by dsimp only; omega, p2, by dsimp only; omega, p4⟩, by dsimp only; omega, ?_⟩
      (try dsimp only); rw [B_md_better_4]; (try simp (disch := omega) only [Option.bind_some, if_true, if_false, eq_self, not_true_eq_false, not_false_eq_true, am_w_id, if_pos, if_neg, fu_self, fu_ne, Int.toNat_natCast, m_gR_2, m_l_2, m_s_2, h1, a1, a2, a3, e9, Int.add_zero, Int.reduceToNat]); rw [B_md_better_14]; (try simp (disch := omega) only [Option.bind_some, if_true, if_false, eq_self, not_true_eq_false, not_false_eq_true, am_w_id, if_pos, if_neg, fu_self, fu_ne, Int.toNat_natCast, m_gR_2, m_l_2, m_s_2, m_O, h1, a1, a2, a3, e9, Int.add_zero, Int.reduceToNat]); rw [B_md_better_63]; (try simp (disch := omega) only [Option.bind_some, if_true, if_false, eq_self, not_true_eq_false, not_false_eq_true, am_w_id, if_pos, if_neg, fu_self, fu_ne, Int.toNat_natCast, h1, a1, a2, a3, e9, Int.add_zero, Int.reduceToNat]); rw [B_md_better_64]; (try simp (disch := omega) only [Option.bind_some, if_true, if_false, eq_self, not_true_eq_false, not_false_eq_true, am_w_id, if_pos, if_neg, fu_self, fu_ne, Int.toNat_natCast, h1, a1, a2, a3, e9, Int.add_zero, Int.reduceToNat])
theorem mo_best (H : MR S t ws bs hs sh) (O : okS t ws bs hs sh) (k : Int) (d : Nat) : ∃ S', am_cI (d + 3) N_md_best [.inr (.inr (some (m))), .inl (k)] (MH m g S) = some ((sp_best k (t, ws, bs, hs, sh)).1, MH m g S') ∧ MS S' (sp_best k (t, ws, bs, hs, sh)).2 := by
  obtain ⟨S1, e1, T1, H1⟩ := mo_isLetters (m := m) (g := g) H 0 10 (d + 1)
  have O1 := okS_t O
  have hl := O.2.1.2.2
  unfold sp_best
  dsimp only [noT, MS]
  by_cases c : t.length ≤ 10 ∧ allL t
  · rw [if_pos ⟨⟨by omega, by omega⟩, c.2⟩] at e1
    by_cases ck : 0 ≤ k
    · rw [if_pos ⟨c, ck⟩]
      have hu : (lw t).length ≤ 10 := by rw [lw_len]; exact c.1
      have h1 := H1.2.1.1
      have hs := O.2.1.2.1
      have hle := sb_le hs (lw t)
      refine ⟨S1, am_cI_of ?_, H1⟩
      have start : am_call (d + 3) N_md_best [.inr (.inr (some (m))), .inl (k)] (MH m g S) = EV (d + 3) N_md_best T_md_best_18 [.inr (.inr (some (m))), .inl (k), .inl (((0 : Nat) : Int))] [] (MH m g S1) := by
        (try dsimp only); rw [en_md_best]; (try simp (disch := omega) only [Option.bind_some, if_true, if_false, eq_self, not_true_eq_false, not_false_eq_true, am_w_id, if_pos, if_neg, fu_self, fu_ne, Int.toNat_natCast, e1, show ¬ (1 : Int) = 0 by decide]); rw [B_md_best_0]; (try simp (disch := omega) only [Option.bind_some, if_true, if_false, eq_self, not_true_eq_false, not_false_eq_true, am_w_id, if_pos, if_neg, fu_self, fu_ne, Int.toNat_natCast, m_O, e1, show ¬ (1 : Int) = 0 by decide]); rw [B_md_best_10]; (try simp (disch := omega) only [Option.bind_some, if_true, if_false, eq_self, not_true_eq_false, not_false_eq_true, am_w_id, if_pos, if_neg, fu_self, fu_ne, Int.toNat_natCast, e1, show ¬ (1 : Int) = 0 by decide]); rw [B_md_best_16]; (try simp (disch := omega) only [Option.bind_some, if_true, if_false, eq_self, not_true_eq_false, not_false_eq_true, am_w_id, if_pos, if_neg, fu_self, fu_ne, Int.toNat_natCast, e1, show ¬ (1 : Int) = 0 by decide])
        rfl
      rw [start]
      have hpre : ∀ i, (hi : i < ws.length) → ((lw t).isPrefixOf (ws[i]'hi).1 = true ↔ ah ws (lw t) ≤ i ∧ i < ah ws (lw t) + (sb ws (lw t)).length) := fun i hi => by
        rw [List.isPrefixOf_iff_prefix]
        exact sb_iff hs (lw t) (List.getElem?_eq_getElem hi)
      have no : ∀ i, i < ws.length → ¬ (ah ws (lw t) ≤ i ∧ i < ah ws (lw t) + (sb ws (lw t)).length) → EV (d + 3) N_md_best T_md_best_18 [.inr (.inr (some (m))), .inl (k), .inl ((i : Int))] [] (MH m g S1) = EV (d + 3) N_md_best T_md_best_18 [.inr (.inr (some (m))), .inl (k), .inl (((i + 1 : Nat) : Int))] [] (MH m g S1) := by
        intro i hi hne
        have a3 := fun d => md_begins (m := m) (g := g) H1 O1 T1 hu (List.getElem?_eq_getElem hi) d
        simp only [if_neg (fun h => hne ((hpre i hi).mp h))] at a3
        (try dsimp only); rw [B_md_best_18]; (try simp (disch := omega) only [Option.bind_some, if_true, if_false, eq_self, not_true_eq_false, not_false_eq_true, am_w_id, if_pos, if_neg, fu_self, fu_ne, Int.toNat_natCast, m_gR_2, m_l_2, m_s_2, h1, a3, Int.reduceToNat]); rw [B_md_best_28]; (try simp (disch := omega) only [Option.bind_some, if_true, if_false, eq_self, not_true_eq_false, not_false_eq_true, am_w_id, if_pos, if_neg, fu_self, fu_ne, Int.toNat_natCast, m_O, h1, a3, Int.reduceToNat]); rw [B_md_best_47]; (try simp (disch := omega) only [Option.bind_some, if_true, if_false, eq_self, not_true_eq_false, not_false_eq_true, am_w_id, if_pos, if_neg, fu_self, fu_ne, Int.toNat_natCast, h1, a3, Int.reduceToNat])
        rfl
      have lp1 := am_for (F := fun i => EV (d + 3) N_md_best T_md_best_18 [.inr (.inr (some (m))), .inl (k), .inl ((i : Int))] [] (MH m g S1)) (k := 0) (n := ah ws (lw t)) (Nat.zero_le _) (fun i _ hi => no i (by omega) (by omega))
      refine lp1.trans ?_
      generalize hres : se (fun i => decide (bst ws (lw t) i = k)) (ah ws (lw t)) (sb ws (lw t)).length = res
      refine am_loop (S := Nat) (F := fun i => EV (d + 3) N_md_best T_md_best_18 [.inr (.inr (some (m))), .inl (k), .inl ((i : Int))] [] (MH m g S1)) (I := fun i => ah ws (lw t) ≤ i ∧ i ≤ ah ws (lw t) + (sb ws (lw t)).length ∧ se (fun i => decide (bst ws (lw t) i = k)) i (ah ws (lw t) + (sb ws (lw t)).length - i) = res) (R := fun o => o = some (some (.inl res), MH m g S1)) (fun i => ah ws (lw t) + (sb ws (lw t)).length - i) ?_ (ah ws (lw t)) ⟨Nat.le_refl _, by omega, by rw [Nat.add_sub_cancel_left]; exact hres⟩
      rintro i ⟨q1, q2, q3⟩
      by_cases ci : i = ah ws (lw t) + (sb ws (lw t)).length
      · left
        rw [se_end (by omega)] at q3
        rw [← q3]
        have lp2 := am_for (F := fun i => EV (d + 3) N_md_best T_md_best_18 [.inr (.inr (some (m))), .inl (k), .inl ((i : Int))] [] (MH m g S1)) (k := i) (n := ws.length) (by omega) (fun i _ hi => no i (by omega) (by omega))
        refine lp2.trans ?_
        (try dsimp only); rw [B_md_best_18]; (try simp (disch := omega) only [Option.bind_some, if_true, if_false, eq_self, not_true_eq_false, not_false_eq_true, am_w_id, if_pos, if_neg, fu_self, fu_ne, Int.toNat_natCast, m_gR_2, m_l_2, m_s_2, h1, Int.reduceToNat]); rw [B_md_best_53]; (try simp (disch := omega) only [Option.bind_some, if_true, if_false, eq_self, not_true_eq_false, not_false_eq_true, am_w_id, if_pos, if_neg, fu_self, fu_ne, Int.toNat_natCast, h1, Int.reduceToNat])
      · have hi : i < ws.length := by omega
        have a3 := fun d => md_begins (m := m) (g := g) H1 O1 T1 hu (List.getElem?_eq_getElem hi) d
        simp only [if_pos ((hpre i hi).mpr ⟨q1, by omega⟩)] at a3
        have a4 := fun d => md_better (m := m) (g := g) H1 O1 T1 hu hi d
        rw [se_step (by omega)] at q3
        by_cases cb : bst ws (lw t) i = k
        · left
          rw [if_pos (decide_eq_true cb)] at q3
          rw [← q3]
          (try dsimp only); rw [B_md_best_18]; (try simp (disch := omega) only [Option.bind_some, if_true, if_false, eq_self, not_true_eq_false, not_false_eq_true, am_w_id, if_pos, if_neg, fu_self, fu_ne, Int.toNat_natCast, m_gR_2, m_l_2, m_s_2, h1, a3, a4, cb, Int.reduceToNat, show ¬ (1 : Int) = 0 by decide]); rw [B_md_best_28]; (try simp (disch := omega) only [Option.bind_some, if_true, if_false, eq_self, not_true_eq_false, not_false_eq_true, am_w_id, if_pos, if_neg, fu_self, fu_ne, Int.toNat_natCast, m_O, h1, a3, a4, cb, Int.reduceToNat, show ¬ (1 : Int) = 0 by decide]); rw [B_md_best_36]; (try simp (disch := omega) only [Option.bind_some, if_true, if_false, eq_self, not_true_eq_false, not_false_eq_true, am_w_id, if_pos, if_neg, fu_self, fu_ne, Int.toNat_natCast, m_O, h1, a3, a4, cb, Int.reduceToNat, show ¬ (1 : Int) = 0 by decide]); rw [B_md_best_45]; (try simp (disch := omega) only [Option.bind_some, if_true, if_false, eq_self, not_true_eq_false, not_false_eq_true, am_w_id, if_pos, if_neg, fu_self, fu_ne, Int.toNat_natCast, h1, a3, a4, cb, Int.reduceToNat, show ¬ (1 : Int) = 0 by decide])
        · right
          rw [if_neg (fun h => cb (of_decide_eq_true h))] at q3
          refine ⟨i + 1, ⟨by omega, by omega, q3⟩, by omega, ?_⟩
          (try dsimp only); rw [B_md_best_18]; (try simp (disch := omega) only [Option.bind_some, if_true, if_false, eq_self, not_true_eq_false, not_false_eq_true, am_w_id, if_pos, if_neg, fu_self, fu_ne, Int.toNat_natCast, m_gR_2, m_l_2, m_s_2, h1, a3, a4, cb, Int.reduceToNat, show ¬ (1 : Int) = 0 by decide]); rw [B_md_best_28]; (try simp (disch := omega) only [Option.bind_some, if_true, if_false, eq_self, not_true_eq_false, not_false_eq_true, am_w_id, if_pos, if_neg, fu_self, fu_ne, Int.toNat_natCast, m_O, h1, a3, a4, cb, Int.reduceToNat, show ¬ (1 : Int) = 0 by decide]); rw [B_md_best_36]; (try simp (disch := omega) only [Option.bind_some, if_true, if_false, eq_self, not_true_eq_false, not_false_eq_true, am_w_id, if_pos, if_neg, fu_self, fu_ne, Int.toNat_natCast, m_O, h1, a3, a4, cb, Int.reduceToNat, show ¬ (1 : Int) = 0 by decide]); rw [B_md_best_47]; (try simp (disch := omega) only [Option.bind_some, if_true, if_false, eq_self, not_true_eq_false, not_false_eq_true, am_w_id, if_pos, if_neg, fu_self, fu_ne, Int.toNat_natCast, h1, a3, a4, cb, Int.reduceToNat, show ¬ (1 : Int) = 0 by decide])
          rfl
    · rw [if_neg (fun h => ck h.2)]
      refine ⟨S1, am_cI_of ?_, H1⟩
      (try dsimp only); rw [en_md_best]; (try simp (disch := omega) only [Option.bind_some, if_true, if_false, eq_self, not_true_eq_false, not_false_eq_true, am_w_id, if_pos, if_neg, fu_self, fu_ne, Int.toNat_natCast, e1, show ¬ (1 : Int) = 0 by decide]); rw [B_md_best_0]; (try simp (disch := omega) only [Option.bind_some, if_true, if_false, eq_self, not_true_eq_false, not_false_eq_true, am_w_id, if_pos, if_neg, fu_self, fu_ne, Int.toNat_natCast, m_O, e1, show ¬ (1 : Int) = 0 by decide]); rw [B_md_best_10]; (try simp (disch := omega) only [Option.bind_some, if_true, if_false, eq_self, not_true_eq_false, not_false_eq_true, am_w_id, if_pos, if_neg, fu_self, fu_ne, Int.toNat_natCast, e1, show ¬ (1 : Int) = 0 by decide]); rw [B_md_best_14]; (try simp (disch := omega) only [Option.bind_some, if_true, if_false, eq_self, not_true_eq_false, not_false_eq_true, am_w_id, if_pos, if_neg, fu_self, fu_ne, Int.toNat_natCast, e1, show ¬ (1 : Int) = 0 by decide])
  · rw [if_neg (fun h => c ⟨by omega, h.2⟩)] at e1
    rw [if_neg (fun h => c h.1)]
    refine ⟨S1, am_cI_of ?_, H1⟩
    (try dsimp only); rw [en_md_best]; (try simp (disch := omega) only [Option.bind_some, if_true, if_false, eq_self, not_true_eq_false, not_false_eq_true, am_w_id, if_pos, if_neg, fu_self, fu_ne, Int.toNat_natCast, e1]); rw [B_md_best_0]; (try simp (disch := omega) only [Option.bind_some, if_true, if_false, eq_self, not_true_eq_false, not_false_eq_true, am_w_id, if_pos, if_neg, fu_self, fu_ne, Int.toNat_natCast, m_O, e1]); rw [B_md_best_14]; (try simp (disch := omega) only [Option.bind_some, if_true, if_false, eq_self, not_true_eq_false, not_false_eq_true, am_w_id, if_pos, if_neg, fu_self, fu_ne, Int.toNat_natCast, e1])
theorem mo_range (H : MR S t ws bs hs sh) (O : okS t ws bs hs sh) (w : Int) (d : Nat) : ∃ S', am_cI (d + 3) N_md_range [.inr (.inr (some (m))), .inl (w)] (MH m g S) = some ((sp_range w (t, ws, bs, hs, sh)).1, MH m g S') ∧ MS S' (sp_range w (t, ws, bs, hs, sh)).2 := by
  obtain ⟨T1, T2, T3, T4⟩ := id H.1
  have hl := O.2.1.2.2
  -- the first loop: the sign's place, and whether all else are letters
  have scan : ∃ (x2 x3 : Int) (j5 : am_V), am_call (d + 3) N_md_range [.inr (.inr (some (m))), .inl (w)] (MH m g S) = EV (d + 3) N_md_range T_md_range_81 [.inr (.inr (some (m))), .inl (w), .inl (x2), .inl (x3), .inl ((t.length : Int)), j5, am_nul, am_nul] [] (MH m g S) ∧ -1 ≤ x2 ∧ x2 < t.length ∧ (0 ≤ x2 → t.getD x2.toNat 0 = 45) ∧ (x2 = -1 → ∀ i, i < t.length → t.getD i 0 ≠ 45) ∧ ((x3 = 1 ∧ (0 ≤ w ∧ w ≤ 4) ∧ ∀ i, i < t.length → (i : Int) ≠ x2 → isL (t.getD i 0) = true) ∨ (x3 = 0 ∧ ¬ ((0 ≤ w ∧ w ≤ 4) ∧ ∀ i, i < t.length → (i : Int) ≠ x2 → isL (t.getD i 0) = true))) := by
    have i0 : ∃ x3 : Int, (∀ d h, am_cI d N_md_isIn [.inr (.inl (w)), .inr (.inl (0)), .inr (.inl (4))] h = some (x3, h)) ∧ ((x3 = 1 ∧ 0 ≤ w ∧ w ≤ 4) ∨ (x3 = 0 ∧ ¬ (0 ≤ w ∧ w ≤ 4))) := by
      by_cases c : 0 ≤ w ∧ w ≤ 4
      · exact ⟨1, fun d h => by rw [md_isIn, if_pos c], Or.inl ⟨rfl, c⟩⟩
      · exact ⟨0, fun d h => by rw [md_isIn, if_neg c], Or.inr ⟨rfl, c⟩⟩
    obtain ⟨y3, i1, hy3⟩ := i0
    have start : am_call (d + 3) N_md_range [.inr (.inr (some (m))), .inl (w)] (MH m g S) = EV (d + 3) N_md_range T_md_range_15 [.inr (.inr (some (m))), .inl (w), .inl (-1), .inl (y3), .inl (((0 : Nat) : Int)), am_nul, am_nul, am_nul] [] (MH m g S) := by
      (try dsimp only); rw [en_md_range]; (try simp (disch := omega) only [Option.bind_some, if_true, if_false, eq_self, not_true_eq_false, not_false_eq_true, am_w_id, if_pos, if_neg, fu_self, fu_ne, Int.toNat_natCast, i1]); rw [B_md_range_0]; (try simp (disch := omega) only [Option.bind_some, if_true, if_false, eq_self, not_true_eq_false, not_false_eq_true, am_w_id, if_pos, if_neg, fu_self, fu_ne, Int.toNat_natCast, i1])
      rfl
    rw [start]
    refine am_loop (S := Nat × (Int × (Int × am_V))) (F := fun s => EV (d + 3) N_md_range T_md_range_15 [.inr (.inr (some (m))), .inl (w), .inl (s.2.1), .inl (s.2.2.1), .inl ((s.1 : Int)), s.2.2.2, am_nul, am_nul] [] (MH m g S))
      (I := fun s => s.1 ≤ t.length ∧ -1 ≤ s.2.1 ∧ s.2.1 < s.1 ∧ (0 ≤ s.2.1 → t.getD s.2.1.toNat 0 = 45) ∧ (s.2.1 = -1 → ∀ i, i < s.1 → t.getD i 0 ≠ 45) ∧ ((s.2.2.1 = 1 ∧ (0 ≤ w ∧ w ≤ 4) ∧ ∀ i, i < s.1 → (i : Int) ≠ s.2.1 → isL (t.getD i 0) = true) ∨ (s.2.2.1 = 0 ∧ ¬ ((0 ≤ w ∧ w ≤ 4) ∧ ∀ i, i < s.1 → (i : Int) ≠ s.2.1 → isL (t.getD i 0) = true))))
      (R := fun o => ∃ (x2 x3 : Int) (j5 : am_V), o = EV (d + 3) N_md_range T_md_range_81 [.inr (.inr (some (m))), .inl (w), .inl (x2), .inl (x3), .inl ((t.length : Int)), j5, am_nul, am_nul] [] (MH m g S) ∧ -1 ≤ x2 ∧ x2 < t.length ∧ (0 ≤ x2 → t.getD x2.toNat 0 = 45) ∧ (x2 = -1 → ∀ i, i < t.length → t.getD i 0 ≠ 45) ∧ ((x3 = 1 ∧ (0 ≤ w ∧ w ≤ 4) ∧ ∀ i, i < t.length → (i : Int) ≠ x2 → isL (t.getD i 0) = true) ∨ (x3 = 0 ∧ ¬ ((0 ≤ w ∧ w ≤ 4) ∧ ∀ i, i < t.length → (i : Int) ≠ x2 → isL (t.getD i 0) = true)))) (fun s => t.length - s.1) ?_ (0, -1, y3, am_nul) ⟨Nat.zero_le _, by dsimp only; omega, by dsimp only; omega, fun h => by dsimp only at h; omega, fun _ i hi => by simp at hi, ?_⟩
    · rintro ⟨k, x2, x3, j5⟩ ⟨p1, p2, p3, p4, p6, p5⟩
      dsimp only at p1 p2 p3 p4 p5 p6 ⊢
      by_cases ck : k = t.length
      · left
        subst ck
        refine ⟨x2, x3, j5, ?_, p2, p3, p4, p6, p5⟩
        (try dsimp only); rw [B_md_range_15]; (try simp (disch := omega) only [Option.bind_some, if_true, if_false, eq_self, not_true_eq_false, not_false_eq_true, am_w_id, if_pos, if_neg, fu_self, fu_ne, Int.toNat_natCast, m_gI_1, m_p_1, T1])
      · right
        have hk : k < t.length := by omega
        have hby := fun d => md_byteAt (m := m) (g := g) H.1 (k := (k : Int)) (by omega) d
        rw [tb_get hk] at hby
        have hbb := by_get T3 hk
        have e9 : (k : Int) + 1 = ((k + 1 : Nat) : Int) := by omega
        by_cases c1 : t.getD k 0 = 45 ∧ x2 = -1
        · refine ⟨(k + 1, (k : Int), x3, .inl (t.getD k 0)), ⟨by dsimp only; omega, by dsimp only; omega, by dsimp only; omega, fun _ => by dsimp only; rw [Int.toNat_natCast]; exact c1.1, fun h => by dsimp only at h; omega, ?_⟩, by dsimp only; omega, ?_⟩
          · dsimp only
            have heq : (∀ i, i < k + 1 → (i : Int) ≠ (k : Int) → isL (t.getD i 0) = true) ↔ (∀ i, i < k → (i : Int) ≠ x2 → isL (t.getD i 0) = true) := by
              constructor
              · intro h i hi _; exact h i (by omega) (by omega)
              · intro h i hi hne; exact h i (by omega) (by omega)
            rw [heq]
            exact p5
          · (try dsimp only); rw [B_md_range_15]; (try simp (disch := omega) only [Option.bind_some, if_true, if_false, eq_self, not_true_eq_false, not_false_eq_true, am_w_id, if_pos, if_neg, fu_self, fu_ne, Int.toNat_natCast, m_gI_1, m_p_1, T1, hby, c1.1, c1.2, e9]); rw [B_md_range_24]; (try simp (disch := omega) only [Option.bind_some, if_true, if_false, eq_self, not_true_eq_false, not_false_eq_true, am_w_id, if_pos, if_neg, fu_self, fu_ne, Int.toNat_natCast, m_O, T1, hby, c1.1, c1.2, e9]); rw [B_md_range_39]; (try simp (disch := omega) only [Option.bind_some, if_true, if_false, eq_self, not_true_eq_false, not_false_eq_true, am_w_id, if_pos, if_neg, fu_self, fu_ne, Int.toNat_natCast, T1, hby, c1.1, c1.2, e9]); rw [B_md_range_44]; (try simp (disch := omega) only [Option.bind_some, if_true, if_false, eq_self, not_true_eq_false, not_false_eq_true, am_w_id, if_pos, if_neg, fu_self, fu_ne, Int.toNat_natCast, T1, hby, c1.1, c1.2, e9]); rw [B_md_range_75]; (try simp (disch := omega) only [Option.bind_some, if_true, if_false, eq_self, not_true_eq_false, not_false_eq_true, am_w_id, if_pos, if_neg, fu_self, fu_ne, Int.toNat_natCast, T1, hby, c1.1, c1.2, e9])
        · have go : EV (d + 3) N_md_range T_md_range_15 [.inr (.inr (some (m))), .inl (w), .inl (x2), .inl (x3), .inl ((k : Int)), j5, am_nul, am_nul] [] (MH m g S) = EV (d + 3) N_md_range T_md_range_50 [.inr (.inr (some (m))), .inl (w), .inl (x2), .inl (x3), .inl ((k : Int)), .inl (t.getD k 0), am_nul, am_nul] [] (MH m g S) := by
            by_cases c2 : t.getD k 0 = 45
            · have c3 : ¬ x2 = -1 := fun h => c1 ⟨c2, h⟩
              (try dsimp only); rw [B_md_range_15]; (try simp (disch := omega) only [Option.bind_some, if_true, if_false, eq_self, not_true_eq_false, not_false_eq_true, am_w_id, if_pos, if_neg, fu_self, fu_ne, Int.toNat_natCast, m_gI_1, m_p_1, T1, hby, c2, c3]); rw [B_md_range_24]; (try simp (disch := omega) only [Option.bind_some, if_true, if_false, eq_self, not_true_eq_false, not_false_eq_true, am_w_id, if_pos, if_neg, fu_self, fu_ne, Int.toNat_natCast, m_O, T1, hby, c2, c3]); rw [B_md_range_39]; (try simp (disch := omega) only [Option.bind_some, if_true, if_false, eq_self, not_true_eq_false, not_false_eq_true, am_w_id, if_pos, if_neg, fu_self, fu_ne, Int.toNat_natCast, T1, hby, c2, c3])
            · (try dsimp only); rw [B_md_range_15]; (try simp (disch := omega) only [Option.bind_some, if_true, if_false, eq_self, not_true_eq_false, not_false_eq_true, am_w_id, if_pos, if_neg, fu_self, fu_ne, Int.toNat_natCast, m_gI_1, m_p_1, T1, hby, c2]); rw [B_md_range_24]; (try simp (disch := omega) only [Option.bind_some, if_true, if_false, eq_self, not_true_eq_false, not_false_eq_true, am_w_id, if_pos, if_neg, fu_self, fu_ne, Int.toNat_natCast, m_O, T1, hby, c2])
          have hne : (k : Int) ≠ x2 := by omega
          have p6' : x2 = -1 → ∀ i, i < k + 1 → t.getD i 0 ≠ 45 := fun h i hi => by
            by_cases ci : i = k
            · subst ci; exact fun e => c1 ⟨e, h⟩
            · exact p6 h i (by omega)
          have hsucc : (∀ i, i < k + 1 → (i : Int) ≠ x2 → isL (t.getD i 0) = true) ↔ (∀ i, i < k → (i : Int) ≠ x2 → isL (t.getD i 0) = true) ∧ (97 ≤ t.getD k 0 ∧ t.getD k 0 ≤ 122) := by
            rw [← isL_iff]
            constructor
            · intro h; exact ⟨fun i hi hn => h i (by omega) hn, h k (by omega) hne⟩
            · rintro ⟨h1, h2⟩ i hi hn
              by_cases ci : i = k
              · rw [ci]; exact h2
              · exact h1 i (by omega) hn
          rcases p5 with ⟨q1, q2, q3⟩ | ⟨q1, q2⟩
          · by_cases c4 : 97 ≤ t.getD k 0 ∧ t.getD k 0 ≤ 122
            · have i4 : ∀ d h, am_cI d N_md_isIn [.inr (.inl (t.getD k 0)), .inr (.inl (97)), .inr (.inl (122))] h = some (1, h) := fun d h => by rw [md_isIn, if_pos c4]
              refine ⟨(k + 1, x2, 1, .inl (t.getD k 0)), ⟨by dsimp only; omega, p2, by dsimp only; omega, p4, p6', Or.inl ⟨rfl, q2, hsucc.mpr ⟨q3, c4⟩⟩⟩, by dsimp only; omega, ?_⟩
              refine go.trans ?_
              subst q1
              (try dsimp only); rw [B_md_range_50]; (try simp (disch := omega) only [Option.bind_some, if_true, if_false, eq_self, not_true_eq_false, not_false_eq_true, am_w_id, if_pos, if_neg, fu_self, fu_ne, Int.toNat_natCast, i4, e9, show ¬ (1 : Int) = 0 by decide]); rw [B_md_range_54]; (try simp (disch := omega) only [Option.bind_some, if_true, if_false, eq_self, not_true_eq_false, not_false_eq_true, am_w_id, if_pos, if_neg, fu_self, fu_ne, Int.toNat_natCast, i4, e9, show ¬ (1 : Int) = 0 by decide]); rw [B_md_range_69]; (try simp (disch := omega) only [Option.bind_some, if_true, if_false, eq_self, not_true_eq_false, not_false_eq_true, am_w_id, if_pos, if_neg, fu_self, fu_ne, Int.toNat_natCast, i4, e9, show ¬ (1 : Int) = 0 by decide]); rw [B_md_range_74]; (try simp (disch := omega) only [Option.bind_some, if_true, if_false, eq_self, not_true_eq_false, not_false_eq_true, am_w_id, if_pos, if_neg, fu_self, fu_ne, Int.toNat_natCast, i4, e9, show ¬ (1 : Int) = 0 by decide]); rw [B_md_range_75]; (try simp (disch := omega) only [Option.bind_some, if_true, if_false, eq_self, not_true_eq_false, not_false_eq_true, am_w_id, if_pos, if_neg, fu_self, fu_ne, Int.toNat_natCast, i4, e9, show ¬ (1 : Int) = 0 by decide])
            · have i4 : ∀ d h, am_cI d N_md_isIn [.inr (.inl (t.getD k 0)), .inr (.inl (97)), .inr (.inl (122))] h = some (0, h) := fun d h => by rw [md_isIn, if_neg c4]
              refine ⟨(k + 1, x2, 0, .inl (t.getD k 0)), ⟨by dsimp only; omega, p2, by dsimp only; omega, p4, p6', Or.inr ⟨rfl, fun h => c4 (hsucc.mp h.2).2⟩⟩, by dsimp only; omega, ?_⟩
              refine go.trans ?_
              subst q1
              (try dsimp only); rw [B_md_range_50]; (try simp (disch := omega) only [Option.bind_some, if_true, if_false, eq_self, not_true_eq_false, not_false_eq_true, am_w_id, if_pos, if_neg, fu_self, fu_ne, Int.toNat_natCast, i4, e9, show ¬ (1 : Int) = 0 by decide]); rw [B_md_range_54]; (try simp (disch := omega) only [Option.bind_some, if_true, if_false, eq_self, not_true_eq_false, not_false_eq_true, am_w_id, if_pos, if_neg, fu_self, fu_ne, Int.toNat_natCast, i4, e9, show ¬ (1 : Int) = 0 by decide]); rw [B_md_range_73]; (try simp (disch := omega) only [Option.bind_some, if_true, if_false, eq_self, not_true_eq_false, not_false_eq_true, am_w_id, if_pos, if_neg, fu_self, fu_ne, Int.toNat_natCast, i4, e9, show ¬ (1 : Int) = 0 by decide]); rw [B_md_range_74]; (try simp (disch := omega) only [Option.bind_some, if_true, if_false, eq_self, not_true_eq_false, not_false_eq_true, am_w_id, if_pos, if_neg, fu_self, fu_ne, Int.toNat_natCast, i4, e9, show ¬ (1 : Int) = 0 by decide]); rw [B_md_range_75]; (try simp (disch := omega) only [Option.bind_some, if_true, if_false, eq_self, not_true_eq_false, not_false_eq_true, am_w_id, if_pos, if_neg, fu_self, fu_ne, Int.toNat_natCast, i4, e9, show ¬ (1 : Int) = 0 by decide])
          · refine ⟨(k + 1, x2, 0, .inl (t.getD k 0)), ⟨by dsimp only; omega, p2, by dsimp only; omega, p4, p6', Or.inr ⟨rfl, fun h => q2 ⟨h.1, (hsucc.mp h.2).1⟩⟩⟩, by dsimp only; omega, ?_⟩
            refine go.trans ?_
            subst q1
            (try dsimp only); rw [B_md_range_50]; (try simp (disch := omega) only [Option.bind_some, if_true, if_false, eq_self, not_true_eq_false, not_false_eq_true, am_w_id, if_pos, if_neg, fu_self, fu_ne, Int.toNat_natCast, e9]); rw [B_md_range_73]; (try simp (disch := omega) only [Option.bind_some, if_true, if_false, eq_self, not_true_eq_false, not_false_eq_true, am_w_id, if_pos, if_neg, fu_self, fu_ne, Int.toNat_natCast, e9]); rw [B_md_range_74]; (try simp (disch := omega) only [Option.bind_some, if_true, if_false, eq_self, not_true_eq_false, not_false_eq_true, am_w_id, if_pos, if_neg, fu_self, fu_ne, Int.toNat_natCast, e9]); rw [B_md_range_75]; (try simp (disch := omega) only [Option.bind_some, if_true, if_false, eq_self, not_true_eq_false, not_false_eq_true, am_w_id, if_pos, if_neg, fu_self, fu_ne, Int.toNat_natCast, e9])
    · dsimp only
      rcases hy3 with ⟨q1, q2⟩ | ⟨q1, q2⟩
      · exact Or.inl ⟨q1, q2, fun i hi => by simp at hi⟩
      · exact Or.inr ⟨q1, fun h => q2 h.1⟩
  obtain ⟨x2, x3, j5, es, p2, p3, p4, p6, p5⟩ := scan
  have iff : ((0 ≤ w ∧ w ≤ 4) ∧ rgOK t (le t 0)) ↔ x3 = 1 ∧ (0 ≤ x2 ∧ x2 ≤ 10) ∧ (t.length : Int) - x2 - 1 ≤ 10 := by
    constructor
    · rintro ⟨cw, c1, c2, c3, c4, c5⟩
      generalize le t 0 = n at *
      have hx2 : x2 = (n : Int) := by
        by_cases h : 0 ≤ x2
        · have h45 := p4 h
          by_cases e : x2.toNat = n
          · omega
          · have := isL_iff.mp (c4 x2.toNat (by omega) e)
            omega
        · exact absurd c3 (p6 (by omega) n c1)
      refine ⟨?_, by omega, by omega⟩
      rcases p5 with ⟨q1, _⟩ | ⟨_, q2⟩
      · exact q1
      · exact absurd ⟨cw, fun i hi hn => c4 i hi (by omega)⟩ q2
    · rintro ⟨h1, h2, h3⟩
      rcases p5 with ⟨q1, q2, q3⟩ | ⟨q1, _⟩
      · have hr : rgOK t x2.toNat := ⟨by omega, by omega, p4 h2.1, fun i hi hn => q3 i hi (by omega), by omega⟩
        rw [rg_le hr]
        exact ⟨q2, hr⟩
      · omega
  unfold sp_range
  dsimp only [noT, MS]
  have hx3 : x3 = 0 ∨ x3 = 1 := by rcases p5 with h | h <;> omega
  by_cases c : (0 ≤ w ∧ w ≤ 4) ∧ rgOK t (le t 0)
  · rw [if_pos c]
    obtain ⟨g1, g2, g3⟩ := iff.mp c
    obtain ⟨cw, c1, c2, c3, c4, c5⟩ := c
    have hn : (le t 0 : Int) = x2 := by
      rcases p5 with ⟨q1, q2, q3⟩ | ⟨q1, _⟩
      · have hr : rgOK t x2.toNat := ⟨by omega, by omega, p4 g2.1, fun i hi hn => q3 i hi (by omega), by omega⟩
        rw [rg_le hr]; omega
      · omega
    generalize le t 0 = n at *
    subst hn
    subst g1
    have hlet : ∀ i, i < t.length → i ≠ n → 97 ≤ t.getD i 0 ∧ t.getD i 0 ≤ 122 := fun i hi hne => isL_iff.mp (c4 i hi hne)
    have htp : ∀ i, i < t.length → i ≠ n → S 0 i = t.getD i 0 := fun i hi hne => by
      have := hlet i hi hne
      rw [T4 i hi]; unfold sby; rw [if_pos (by omega)]
    have spg : ∀ a k i, i < k → a + k ≤ t.length → (spl t a k).getD i 0 = t.getD (a + i) 0 - 96 := by
      intro a k i hi hk
      unfold spl
      rw [List.getD_eq_getElem?_getD, List.getElem?_map, List.getElem?_take_of_lt hi, List.getElem?_drop, List.getElem?_eq_getElem (show a + i < t.length by omega), gd_s (show a + i < t.length by omega)]
      rfl
    have i1 : ∀ d h, am_cI d N_md_isIn [.inr (.inl ((n : Int))), .inr (.inl (0)), .inr (.inl (10))] h = some (1, h) := fun d h => by rw [md_isIn, if_pos g2]
    -- LOW is told
    obtain ⟨S2, hS2⟩ : ∃ S2, S2 = am_fu (am_fu S 1 (fun _ => 0)) 8 (fun _ => (n : Int)) := ⟨_, rfl⟩
    have lp1 := am_for (F := fun k => EV (d + 3) N_md_range T_md_range_141 [.inr (.inr (some (m))), .inl (w), .inl ((n : Int)), .inl (1), .inl ((t.length : Int)), .inl ((k : Int)), am_nul, am_nul] [] (MH m g (am_fu S2 7 (prf (S2 7) (fun i => (spl t 0 n).getD i 0) k)))) (k := 0) (n := n) (Nat.zero_le _) (fun k _ hk => by
      have e1 : S2 0 k = t.getD k 0 := by rw [hS2, fu_ne (by decide), fu_ne (by decide)]; exact htp k (by omega) (by omega)
      have e2 := hlet k (by omega) (by omega)
      have e3 : t.getD k 0 - 97 + 1 = (spl t 0 n).getD k 0 := by rw [spg 0 n k hk (by omega), Nat.zero_add]; omega
      have e9 : (k : Int) + 1 = ((k + 1 : Nat) : Int) := by omega
      (try dsimp only); rw [B_md_range_141]; (try simp (disch := omega) only [Option.bind_some, if_true, if_false, eq_self, not_true_eq_false, not_false_eq_true, am_w_id, if_pos, if_neg, fu_self, fu_ne, Int.toNat_natCast, e1, e3, e9, prf_s, fu_fu]); rw [B_md_range_147]; (try simp (disch := omega) only [Option.bind_some, if_true, if_false, eq_self, not_true_eq_false, not_false_eq_true, am_w_id, if_pos, if_neg, fu_self, fu_ne, Int.toNat_natCast, m_gR_7, m_l_7, m_s_7, m_gR_0, m_l_0, m_s_0, e1, e3, e9, prf_s, fu_fu]))
    rw [prf0, fu_eta] at lp1
    obtain ⟨S3, hS3⟩ : ∃ S3, S3 = am_fu S2 7 (prf (S2 7) (fun i => (spl t 0 n).getD i 0) n) := ⟨_, rfl⟩
    rw [← hS3] at lp1
    have F3 : fd [1, 7, 8] S S3 := by rw [hS3, hS2]; exact ((fd.rf.up (by decide) _).up (by decide) _).up (by decide) _
    have T3' : taR S3 [] := ⟨by rw [hS3, fu_ne (by decide), hS2, fu_ne (by decide), fu_self]; rfl, by simp, fun x hx => by simp at hx, fun i hi => by simp at hi⟩
    have H3 : MR S3 [] ws bs hs sh := H.frt F3 (by decide) T3'
    have O3 := okS_t O
    have len0 : (spl t 0 n).length = n := spl_len (by omega)
    have R3 : toldR S3 (spl t 0 n) := by
      refine ⟨?_, by omega, fun i hi => ?_⟩
      · rw [hS3, fu_ne (by decide), hS2, fu_self, len0]
      · rw [hS3, fu_self, prf_lt (by omega)]
    have wl0 : wl (spl t 0 n) := spl_wl (fun i h1 h2 h3 => c4 i h3 (by omega))
    have a1 := fun d => md_placeOf0 (m := m) (g := g) H3 O3 R3 wl0 d
    have h31 := H3.2.1.1
    have hahl := ah_le ws (spl t 0 n)
    generalize hlo : ah ws (spl t 0 n) = lo at *
    have e5 : (t.length : Int) - (n : Int) - 1 = ((t.length - (n + 1) : Nat) : Int) := by omega
    have start : EV (d + 3) N_md_range T_md_range_81 [.inr (.inr (some (m))), .inl (w), .inl ((n : Int)), .inl (1), .inl ((t.length : Int)), j5, am_nul, am_nul] [] (MH m g S) = EV (d + 3) N_md_range T_md_range_141 [.inr (.inr (some (m))), .inl (w), .inl ((n : Int)), .inl (1), .inl ((t.length : Int)), .inl (((0 : Nat) : Int)), am_nul, am_nul] [] (MH m g S2) := by
      have e6 : ¬ 10 < ((t.length - (n + 1) : Nat) : Int) := by omega
      (try dsimp only); rw [B_md_range_81]; (try simp (disch := omega) only [Option.bind_some, if_true, if_false, eq_self, not_true_eq_false, not_false_eq_true, am_w_id, if_pos, if_neg, fu_self, fu_ne, Int.toNat_natCast, i1, T1, e5, e6, show ¬ (1 : Int) = 0 by decide]); rw [B_md_range_85]; (try simp (disch := omega) only [Option.bind_some, if_true, if_false, eq_self, not_true_eq_false, not_false_eq_true, am_w_id, if_pos, if_neg, fu_self, fu_ne, Int.toNat_natCast, i1, T1, e5, e6, show ¬ (1 : Int) = 0 by decide]); rw [B_md_range_97]; (try simp (disch := omega) only [Option.bind_some, if_true, if_false, eq_self, not_true_eq_false, not_false_eq_true, am_w_id, if_pos, if_neg, fu_self, fu_ne, Int.toNat_natCast, m_gI_1, m_p_1, i1, T1, e5, e6, show ¬ (1 : Int) = 0 by decide]); rw [B_md_range_110]; (try simp (disch := omega) only [Option.bind_some, if_true, if_false, eq_self, not_true_eq_false, not_false_eq_true, am_w_id, if_pos, if_neg, fu_self, fu_ne, Int.toNat_natCast, i1, T1, e5, e6, show ¬ (1 : Int) = 0 by decide]); rw [B_md_range_115]; (try simp (disch := omega) only [Option.bind_some, if_true, if_false, eq_self, not_true_eq_false, not_false_eq_true, am_w_id, if_pos, if_neg, fu_self, fu_ne, Int.toNat_natCast, m_gI_1, m_p_1, i1, T1, e5, e6, show ¬ (1 : Int) = 0 by decide]); rw [B_md_range_133]; (try simp (disch := omega) only [Option.bind_some, if_true, if_false, eq_self, not_true_eq_false, not_false_eq_true, am_w_id, if_pos, if_neg, fu_self, fu_ne, Int.toNat_natCast, m_gI_8, m_p_8, i1, T1, e5, e6, show ¬ (1 : Int) = 0 by decide])
      rw [hS2]
      rfl
    obtain ⟨S4, hS4⟩ : ∃ S4, S4 = am_fu S3 8 (fun _ => ((t.length - (n + 1) : Nat) : Int)) := ⟨_, rfl⟩
    have H4 : MR S4 [] ws bs hs sh := by rw [hS4]; exact H3.frd (l := [8]) (fd.rf.up (by decide) _) (by decide)
    have S48 : S4 8 0 = ((t.length - (n + 1) : Nat) : Int) := by rw [hS4, fu_self]
    by_cases c7 : t.length = n + 1
    · have hhi : spl t (n + 1) (t.length - (n + 1)) = [] := by rw [c7, Nat.sub_self]; unfold spl; rw [List.take_zero]; rfl
      have bt := fun d => md_between (m := m) (g := g) H4 O3 (b := lo) (e := ws.length) (by omega) (Nat.le_refl _) cw d
      refine ⟨S4, am_cI_of ?_, H4⟩
      refine es.trans (start.trans (lp1.trans ?_))
      unfold rgTo
      rw [hhi, if_pos rfl]
      have e7 : ((t.length - (n + 1) : Nat) : Int) ≤ 0 := by omega
      (try dsimp only); rw [B_md_range_141]; (try simp (disch := omega) only [Option.bind_some, if_true, if_false, eq_self, not_true_eq_false, not_false_eq_true, am_w_id, if_pos, if_neg, fu_self, fu_ne, Int.toNat_natCast, a1, h31, e5, ← hS4, S48, e7, bt, Int.reduceToNat]); rw [B_md_range_172]; (try simp (disch := omega) only [Option.bind_some, if_true, if_false, eq_self, not_true_eq_false, not_false_eq_true, am_w_id, if_pos, if_neg, fu_self, fu_ne, Int.toNat_natCast, m_gR_2, m_l_2, m_s_2, m_gI_8, m_p_8, m_O, a1, h31, e5, ← hS4, S48, e7, bt, Int.reduceToNat]); rw [B_md_range_284]; (try simp (disch := omega) only [Option.bind_some, if_true, if_false, eq_self, not_true_eq_false, not_false_eq_true, am_w_id, if_pos, if_neg, fu_self, fu_ne, Int.toNat_natCast, m_O, a1, h31, e5, ← hS4, S48, e7, bt, Int.reduceToNat])
    · have hne : spl t (n + 1) (t.length - (n + 1)) ≠ [] := fun e => by
        have := congrArg List.length e
        rw [spl_len (by omega)] at this
        simp at this
        omega
      -- HIGH is told
      have lp2 := am_for (F := fun k => EV (d + 3) N_md_range T_md_range_211 [.inr (.inr (some (m))), .inl (w), .inl ((n : Int)), .inl (1), .inl ((t.length : Int)), .inl ((lo : Int)), .inl ((ws.length : Int)), .inl ((k : Int))] [] (MH m g (am_fu S4 7 (prf (S4 7) (fun i => (spl t (n + 1) (t.length - (n + 1))).getD i 0) k)))) (k := 0) (n := t.length - (n + 1)) (Nat.zero_le _) (fun k _ hk => by
        have e1 : S4 0 (n + 1 + k) = t.getD (n + 1 + k) 0 := by rw [hS4, fu_ne (by decide), F3 0 (by decide)]; exact htp _ (by omega) (by omega)
        have e2 := hlet (n + 1 + k) (by omega) (by omega)
        have e3 : t.getD (n + 1 + k) 0 - 97 + 1 = (spl t (n + 1) (t.length - (n + 1))).getD k 0 := by rw [spg (n + 1) _ k hk (by omega)]; omega
        have e9 : (k : Int) + 1 = ((k + 1 : Nat) : Int) := by omega
        have e8 : ((n : Int) + 1 + (k : Int)).toNat = n + 1 + k := by omega
        (try dsimp only); rw [B_md_range_211]; (try simp (disch := omega) only [Option.bind_some, if_true, if_false, eq_self, not_true_eq_false, not_false_eq_true, am_w_id, if_pos, if_neg, fu_self, fu_ne, Int.toNat_natCast, m_gI_8, m_p_8, S48, e8, e1, e3, e9, prf_s, fu_fu]); rw [B_md_range_220]; (try simp (disch := omega) only [Option.bind_some, if_true, if_false, eq_self, not_true_eq_false, not_false_eq_true, am_w_id, if_pos, if_neg, fu_self, fu_ne, Int.toNat_natCast, m_gR_7, m_l_7, m_s_7, m_gR_0, m_l_0, m_s_0, S48, e8, e1, e3, e9, prf_s, fu_fu]))
      rw [prf0, fu_eta] at lp2
      obtain ⟨S5, hS5⟩ : ∃ S5, S5 = am_fu S4 7 (prf (S4 7) (fun i => (spl t (n + 1) (t.length - (n + 1))).getD i 0) (t.length - (n + 1))) := ⟨_, rfl⟩
      rw [← hS5] at lp2
      have H5 : MR S5 [] ws bs hs sh := by rw [hS5]; exact H4.frd (l := [7]) (fd.rf.up (by decide) _) (by decide)
      have len5 : (spl t (n + 1) (t.length - (n + 1))).length = t.length - (n + 1) := spl_len (by omega)
      have R5 : toldR S5 (spl t (n + 1) (t.length - (n + 1))) := by
        refine ⟨?_, by omega, fun i hi => ?_⟩
        · rw [hS5, fu_ne (by decide), S48, len5]
        · rw [hS5, fu_self, prf_lt (by omega)]
      have S58 : S5 8 0 = ((t.length - (n + 1) : Nat) : Int) := by rw [hS5, fu_ne (by decide)]; exact S48
      have wl5 : wl (spl t (n + 1) (t.length - (n + 1))) := spl_wl (fun i h1 h2 h3 => c4 i h3 (by omega))
      have a5 := fun d => md_placeOf0 (m := m) (g := g) H5 O3 R5 wl5 d
      have a6 := fun d => md_isThere0 (m := m) (g := g) H5 O3 R5 wl5 d
      have hahh := ah_le ws (spl t (n + 1) (t.length - (n + 1)))
      have hthere : nu ws (spl t (n + 1) (t.length - (n + 1))) ≠ none → ah ws (spl t (n + 1) (t.length - (n + 1))) < ws.length := fun h => by
        obtain ⟨y, hy⟩ := Option.ne_none_iff_exists'.mp h
        exact (List.getElem?_eq_some_iff.mp (nu_some hy)).1
      refine ⟨S5, am_cI_of ?_, H5⟩
      refine es.trans (start.trans (lp1.trans ?_))
      have e7 : ¬ ((t.length - (n + 1) : Nat) : Int) ≤ 0 := by omega
      have mid : EV (d + 3) N_md_range T_md_range_141 [.inr (.inr (some (m))), .inl (w), .inl ((n : Int)), .inl (1), .inl ((t.length : Int)), .inl ((n : Int)), am_nul, am_nul] [] (MH m g S3) = EV (d + 3) N_md_range T_md_range_211 [.inr (.inr (some (m))), .inl (w), .inl ((n : Int)), .inl (1), .inl ((t.length : Int)), .inl ((lo : Int)), .inl ((ws.length : Int)), .inl (((0 : Nat) : Int))] [] (MH m g S4) := by
        (try dsimp only); rw [B_md_range_141]; (try simp (disch := omega) only [Option.bind_some, if_true, if_false, eq_self, not_true_eq_false, not_false_eq_true, am_w_id, if_pos, if_neg, fu_self, fu_ne, Int.toNat_natCast, a1, h31, e5, ← hS4, S48, e7, Int.reduceToNat]); rw [B_md_range_172]; (try simp (disch := omega) only [Option.bind_some, if_true, if_false, eq_self, not_true_eq_false, not_false_eq_true, am_w_id, if_pos, if_neg, fu_self, fu_ne, Int.toNat_natCast, m_gR_2, m_l_2, m_s_2, m_gI_8, m_p_8, m_O, a1, h31, e5, ← hS4, S48, e7, Int.reduceToNat]); rw [B_md_range_208]; (try simp (disch := omega) only [Option.bind_some, if_true, if_false, eq_self, not_true_eq_false, not_false_eq_true, am_w_id, if_pos, if_neg, fu_self, fu_ne, Int.toNat_natCast, a1, h31, e5, ← hS4, S48, e7, Int.reduceToNat])
        rfl
      refine mid.trans (lp2.trans ?_)
      unfold rgTo
      rw [if_neg hne]
      generalize spl t (n + 1) (t.length - (n + 1)) = u at *
      by_cases c8 : nu ws u = none
      · simp only [if_pos c8] at a6 ⊢
        have bt := fun d => md_between (m := m) (g := g) H5 O3 (b := lo) (e := ah ws u) (by omega) (by omega) cw d
        (try dsimp only); rw [B_md_range_211]; (try simp (disch := omega) only [Option.bind_some, if_true, if_false, eq_self, not_true_eq_false, not_false_eq_true, am_w_id, if_pos, if_neg, fu_self, fu_ne, Int.toNat_natCast, m_gI_8, m_p_8, S58, a5, a6, Int.add_zero, bt]); rw [B_md_range_249]; (try simp (disch := omega) only [Option.bind_some, if_true, if_false, eq_self, not_true_eq_false, not_false_eq_true, am_w_id, if_pos, if_neg, fu_self, fu_ne, Int.toNat_natCast, m_gR_2, m_l_2, m_s_2, m_O, S58, a5, a6, Int.add_zero, bt]); rw [B_md_range_280]; (try simp (disch := omega) only [Option.bind_some, if_true, if_false, eq_self, not_true_eq_false, not_false_eq_true, am_w_id, if_pos, if_neg, fu_self, fu_ne, Int.toNat_natCast, S58, a5, a6, Int.add_zero, bt]); rw [B_md_range_281]; (try simp (disch := omega) only [Option.bind_some, if_true, if_false, eq_self, not_true_eq_false, not_false_eq_true, am_w_id, if_pos, if_neg, fu_self, fu_ne, Int.toNat_natCast, S58, a5, a6, Int.add_zero, bt]); rw [B_md_range_284]; (try simp (disch := omega) only [Option.bind_some, if_true, if_false, eq_self, not_true_eq_false, not_false_eq_true, am_w_id, if_pos, if_neg, fu_self, fu_ne, Int.toNat_natCast, m_O, S58, a5, a6, Int.add_zero, bt])
        rfl
      · simp only [if_neg c8] at a6 ⊢
        have := hthere c8
        have bt := fun d => md_between (m := m) (g := g) H5 O3 (b := lo) (e := ah ws u + 1) (by omega) (by omega) cw d
        have e10 : (ah ws u : Int) + 1 = ((ah ws u + 1 : Nat) : Int) := by omega
        (try dsimp only); rw [B_md_range_211]; (try simp (disch := omega) only [Option.bind_some, if_true, if_false, eq_self, not_true_eq_false, not_false_eq_true, am_w_id, if_pos, if_neg, fu_self, fu_ne, Int.toNat_natCast, m_gI_8, m_p_8, S58, a5, a6, e10, bt, show ¬ (1 : Int) = 0 by decide]); rw [B_md_range_249]; (try simp (disch := omega) only [Option.bind_some, if_true, if_false, eq_self, not_true_eq_false, not_false_eq_true, am_w_id, if_pos, if_neg, fu_self, fu_ne, Int.toNat_natCast, m_gR_2, m_l_2, m_s_2, m_O, S58, a5, a6, e10, bt, show ¬ (1 : Int) = 0 by decide]); rw [B_md_range_276]; (try simp (disch := omega) only [Option.bind_some, if_true, if_false, eq_self, not_true_eq_false, not_false_eq_true, am_w_id, if_pos, if_neg, fu_self, fu_ne, Int.toNat_natCast, S58, a5, a6, e10, bt, show ¬ (1 : Int) = 0 by decide]); rw [B_md_range_281]; (try simp (disch := omega) only [Option.bind_some, if_true, if_false, eq_self, not_true_eq_false, not_false_eq_true, am_w_id, if_pos, if_neg, fu_self, fu_ne, Int.toNat_natCast, S58, a5, a6, e10, bt, show ¬ (1 : Int) = 0 by decide]); rw [B_md_range_284]; (try simp (disch := omega) only [Option.bind_some, if_true, if_false, eq_self, not_true_eq_false, not_false_eq_true, am_w_id, if_pos, if_neg, fu_self, fu_ne, Int.toNat_natCast, m_O, S58, a5, a6, e10, bt, show ¬ (1 : Int) = 0 by decide])
  · rw [if_neg c]
    have c' : ¬ (x3 = 1 ∧ (0 ≤ x2 ∧ x2 ≤ 10) ∧ (t.length : Int) - x2 - 1 ≤ 10) := fun h => c (iff.mpr h)
    have H3 : MR (am_fu S 1 (fun _ => 0)) [] ws bs hs sh := H.frt (l := [1]) (fd.rf.up (by decide) _) (by decide) ⟨by rw [fu_self]; rfl, by simp, fun x hx => by simp at hx, fun i hi => by simp at hi⟩
    have tl : EV (d + 3) N_md_range T_md_range_114 [.inr (.inr (some (m))), .inl (w), .inl (x2), .inl (x3), .inl ((t.length : Int)), j5, am_nul, am_nul] [] (MH m g S) = some (some (.inl (-1)), MH m g (am_fu S 1 (fun _ => 0))) := by
      (try dsimp only); rw [B_md_range_114]; (try simp (disch := omega) only [Option.bind_some, if_true, if_false, eq_self, not_true_eq_false, not_false_eq_true, am_w_id, if_pos, if_neg, fu_self, fu_ne, Int.toNat_natCast, T1]); rw [B_md_range_115]; (try simp (disch := omega) only [Option.bind_some, if_true, if_false, eq_self, not_true_eq_false, not_false_eq_true, am_w_id, if_pos, if_neg, fu_self, fu_ne, Int.toNat_natCast, m_gI_1, m_p_1, T1]); rw [B_md_range_131]; (try simp (disch := omega) only [Option.bind_some, if_true, if_false, eq_self, not_true_eq_false, not_false_eq_true, am_w_id, if_pos, if_neg, fu_self, fu_ne, Int.toNat_natCast, T1])
    refine ⟨am_fu S 1 (fun _ => 0), am_cI_of (es.trans ?_), H3⟩
    rcases hx3 with e | e
    · subst e
      (try dsimp only); rw [B_md_range_81]; (try simp (disch := omega) only [Option.bind_some, if_true, if_false, eq_self, not_true_eq_false, not_false_eq_true, am_w_id, if_pos, if_neg, fu_self, fu_ne, Int.toNat_natCast])
      exact tl
    · subst e
      by_cases c9 : 0 ≤ x2 ∧ x2 ≤ 10
      · have i1 : ∀ d h, am_cI d N_md_isIn [.inr (.inl (x2)), .inr (.inl (0)), .inr (.inl (10))] h = some (1, h) := fun d h => by rw [md_isIn, if_pos c9]
        have c10 : 10 < (t.length : Int) - x2 - 1 := by omega
        (try dsimp only); rw [B_md_range_81]; (try simp (disch := omega) only [Option.bind_some, if_true, if_false, eq_self, not_true_eq_false, not_false_eq_true, am_w_id, if_pos, if_neg, fu_self, fu_ne, Int.toNat_natCast, i1, T1, c10, show ¬ (1 : Int) = 0 by decide]); rw [B_md_range_85]; (try simp (disch := omega) only [Option.bind_some, if_true, if_false, eq_self, not_true_eq_false, not_false_eq_true, am_w_id, if_pos, if_neg, fu_self, fu_ne, Int.toNat_natCast, i1, T1, c10, show ¬ (1 : Int) = 0 by decide]); rw [B_md_range_97]; (try simp (disch := omega) only [Option.bind_some, if_true, if_false, eq_self, not_true_eq_false, not_false_eq_true, am_w_id, if_pos, if_neg, fu_self, fu_ne, Int.toNat_natCast, m_gI_1, m_p_1, i1, T1, c10, show ¬ (1 : Int) = 0 by decide])
        exact tl
      · have i1 : ∀ d h, am_cI d N_md_isIn [.inr (.inl (x2)), .inr (.inl (0)), .inr (.inl (10))] h = some (0, h) := fun d h => by rw [md_isIn, if_neg c9]
        (try dsimp only); rw [B_md_range_81]; (try simp (disch := omega) only [Option.bind_some, if_true, if_false, eq_self, not_true_eq_false, not_false_eq_true, am_w_id, if_pos, if_neg, fu_self, fu_ne, Int.toNat_natCast, i1, show ¬ (1 : Int) = 0 by decide]); rw [B_md_range_85]; (try simp (disch := omega) only [Option.bind_some, if_true, if_false, eq_self, not_true_eq_false, not_false_eq_true, am_w_id, if_pos, if_neg, fu_self, fu_ne, Int.toNat_natCast, i1, show ¬ (1 : Int) = 0 by decide])
        exact tl
end MO
