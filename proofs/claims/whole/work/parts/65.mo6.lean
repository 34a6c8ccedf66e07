/-! near, like: how far, which words fit -/
/-- one row more of how far beginnings are from one another -/
def lvS (x : Int) (b : List Int) (prev : Nat → Int) (first : Int) : Nat → Int
  | 0 => first
  | j + 1 => am_min (am_min (prev (j + 1)) (lvS x b prev first j) + 1) (prev j + if x = b.getD j 0 then 0 else 1)
def lv (a b : List Int) : Nat → Nat → Int
  | 0 => fun j => (j : Int)
  | i + 1 => lvS (a.getD i 0) b (lv a b i) ((i : Int) + 1)
theorem lv_0 (a b : List Int) (j : Nat) : lv a b 0 j = j := rfl
theorem lv_n0 (a b : List Int) (i : Nat) : lv a b i 0 = i := by
  cases i with
  | zero => rfl
  | succ i => show (i : Int) + 1 = ((i + 1 : Nat) : Int); omega
theorem lv_ss (a b : List Int) (i j : Nat) : lv a b (i + 1) (j + 1) = am_min (am_min (lv a b i (j + 1)) (lv a b (i + 1) j) + 1) (lv a b i j + if a.getD i 0 = b.getD j 0 then 0 else 1) := rfl
theorem min_comm' (x y : Int) : am_min x y = am_min y x := by unfold am_min; split <;> split <;> omega
theorem lv_sym (a b : List Int) : ∀ (n i j : Nat), i + j ≤ n → lv a b i j = lv b a j i
  | 0, i, j, h => by
    have h1 : i = 0 := by omega
    have h2 : j = 0 := by omega
    subst h1 h2
    rfl
  | n + 1, 0, j, _ => by rw [lv_0, lv_n0]
  | n + 1, i + 1, 0, _ => by rw [lv_0, lv_n0]
  | n + 1, i + 1, j + 1, h => by
    rw [lv_ss, lv_ss, lv_sym a b n i (j + 1) (by omega), lv_sym a b n (i + 1) j (by omega), lv_sym a b n i j (by omega), min_comm' (lv b a (j + 1) i)]
    congr 2
    by_cases c : a.getD i 0 = b.getD j 0
    · rw [if_pos c, if_pos c.symm]
    · rw [if_neg c, if_neg (fun h => c h.symm)]
theorem lv_bd (a b : List Int) : ∀ (n i j : Nat), i + j ≤ n → 0 ≤ lv a b i j ∧ lv a b i j ≤ (i : Int) + j
  | 0, i, j, h => by
    have h1 : i = 0 := by omega
    have h2 : j = 0 := by omega
    subst h1 h2
    rw [lv_0]; omega
  | n + 1, 0, j, _ => by rw [lv_0]; omega
  | n + 1, i + 1, 0, _ => by rw [lv_n0]; omega
  | n + 1, i + 1, j + 1, h => by
    have h1 := lv_bd a b n i (j + 1) (by omega)
    have h2 := lv_bd a b n (i + 1) j (by omega)
    have h3 := lv_bd a b n i j (by omega)
    rw [lv_ss]
    unfold am_min
    split <;> split <;> split <;> omega
/-- the k-th of which P holds; k -1: how many -/
def pk (P : Nat → Bool) (k : Int) : Nat → Nat → Int → Int
  | _, 0, f => if k = -1 then f else -2
  | a, n + 1, f => if P a = true then (if f = k then (a : Int) else pk P k (a + 1) n (f + 1)) else pk P k (a + 1) n f
theorem pk_step {P : Nat → Bool} {k f : Int} {a n : Nat} (h : a < n) : pk P k a (n - a) f = if P a = true then (if f = k then (a : Int) else pk P k (a + 1) (n - (a + 1)) (f + 1)) else pk P k (a + 1) (n - (a + 1)) f := by
  rw [show n - a = (n - (a + 1)) + 1 by omega]
  rfl
theorem pk_end {P : Nat → Bool} {k f : Int} {n : Nat} : pk P k n (n - n) f = if k = -1 then f else -2 := by rw [Nat.sub_self]; rfl
theorem pk_congr {P Q : Nat → Bool} {k : Int} : ∀ (n a : Nat) (f : Int), (∀ i, a ≤ i → i < a + n → P i = Q i) → pk P k a n f = pk Q k a n f
  | 0, a, f, _ => rfl
  | n + 1, a, f, h => by
    rw [pk, pk, h a (Nat.le_refl _) (by omega), pk_congr n (a + 1) (f + 1) (fun i h1 h2 => h i (by omega) (by omega)), pk_congr n (a + 1) f (fun i h1 h2 => h i (by omega) (by omega))]
/-- a sign: 0 any letter, -1 any letters, else a letter -/
def sgn (x : Int) : Int := if x = 63 then 0 else if x = 42 then -1 else x - 96
def sgO (x : Int) : Prop := x = 63 ∨ x = 42 ∨ (97 ≤ x ∧ x ≤ 122)
def isPat (t : List Int) : Prop := (1 ≤ t.length ∧ t.length ≤ 12) ∧ ∀ x ∈ t, sgO x
def mtS (prev : Nat → Bool) : Nat → Bool
  | 0 => prev 0
  | i + 1 => prev (i + 1) || mtS prev i
def mtL (x : Int) (w : List Int) (prev : Nat → Bool) : Nat → Bool
  | 0 => false
  | i + 1 => prev i && (decide (x = 0) || decide (x = w.getD i 0))
/-- can the first j signs stand for the first i letters -/
def mt (s w : List Int) : Nat → Nat → Bool
  | 0 => fun i => decide (i = 0)
  | j + 1 => if s.getD j 0 = -1 then mtS (mt s w j) else mtL (s.getD j 0) w (mt s w j)
noncomputable section
def wdi (ws : List wd) (i : Nat) : List Int := (ws.getD i ([], 0)).1
def sp_near (d k : Int) (s : Sta) : Int × Sta := if (s.1.length ≤ 10 ∧ allL s.1) ∧ ((0 ≤ d ∧ d ≤ 3) ∧ -1 ≤ k) then (pk (fun i => decide (lv (wdi s.2.1 i) (lw s.1) (wdi s.2.1 i).length (lw s.1).length ≤ d)) k 0 s.2.1.length 0, noT s) else (-1, noT s)
def sp_like (k : Int) (s : Sta) : Int × Sta := @ite _ (isPat s.1 ∧ -1 ≤ k) (cdec _) (pk (fun i => mt (s.1.map sgn) (wdi s.2.1 i) s.1.length (wdi s.2.1 i).length) k 0 s.2.1.length 0, noT s) (-1, noT s)
end
theorem ok_near {s : Sta} (h : okT s) (d k : Int) : okT (sp_near d k s).2 := by unfold sp_near; split <;> exact ok_noT h
theorem ok_like {s : Sta} (h : okT s) (k : Int) : okT (sp_like k s).2 := by unfold sp_like; split <;> exact ok_noT h
theorem wdi_get {ws : List wd} {i : Nat} {p : wd} (h : ws[i]? = some p) : wdi ws i = p.1 := by unfold wdi; rw [List.getD_eq_getElem?_getD, h]; rfl
section MO
variable {m : Nat} {g : am_H} {S : Nat → Nat → Int} {t u : List Int} {ws bs ws' bs' : List wd} {hs : List (List wd × List wd)} {sh : Nat → Option (List wd)}
theorem md_farFrom (H : MR S t ws bs hs sh) (O : okS t ws bs hs sh) (T : toldR S u) (hu : u.length ≤ 10) {w : Nat} {p : wd} (hw : ws[w]? = some p) (d : Nat) : ∃ S', am_cI (d + 1) N_md_farFrom [.inr (.inr (some (m))), .inl ((w : Int))] (MH m g S) = some (lv p.1 u p.1.length u.length, MH m g S') ∧ fd [24] S S' := by
  obtain ⟨T1, T2, T3⟩ := id T
  have hp10 := (ok_get O.2.1 hw).2.2.1
  have hwl := (List.getElem?_eq_some_iff.mp hw).1
  have hl100 := O.2.1.2.2
  -- the first row
  have lp1 := am_for (F := fun k => EV (d + 1) N_md_farFrom T_md_farFrom_2 [.inr (.inr (some (m))), .inl ((w : Int)), .inl ((k : Int)), am_nul, am_nul, am_nul, am_nul] [] (MH m g (am_fu S 24 (prf (S 24) (fun i => (i : Int)) k)))) (k := 0) (n := u.length + 1) (Nat.zero_le _) (fun k _ hk => by
    have e9 : (k : Int) + 1 = ((k + 1 : Nat) : Int) := by omega
    (try dsimp only); rw [B_md_farFrom_2]; (try simp (disch := omega) only [Option.bind_some, if_true, if_false, eq_self, not_true_eq_false, not_false_eq_true, am_w_id, if_pos, if_neg, fu_self, fu_ne, Int.toNat_natCast, m_gI_8, m_p_8, T1, e9, prf_s, fu_fu]); rw [B_md_farFrom_10]; (try simp (disch := omega) only [Option.bind_some, if_true, if_false, eq_self, not_true_eq_false, not_false_eq_true, am_w_id, if_pos, if_neg, fu_self, fu_ne, Int.toNat_natCast, m_gR_24, m_l_24, m_s_24, T1, e9, prf_s, fu_fu]))
  rw [prf0, fu_eta] at lp1
  have fin := am_loop (S := Nat × ((Nat → Nat → Int) × (am_V × (am_V × (am_V × am_V))))) (F := fun s => EV (d + 1) N_md_farFrom T_md_farFrom_25 [.inr (.inr (some (m))), .inl ((w : Int)), .inl (((s.1 + 1 : Nat) : Int)), s.2.2.1, s.2.2.2.1, s.2.2.2.2.1, s.2.2.2.2.2] [] (MH m g s.2.1))
    (I := fun s => s.1 ≤ p.1.length ∧ fd [24] S s.2.1 ∧ ∀ j, j ≤ u.length → s.2.1 24 j = lv p.1 u s.1 j)
    (R := fun o => ∃ S', o = some (some (.inl (lv p.1 u p.1.length u.length)), MH m g S') ∧ fd [24] S S') (fun s => p.1.length - s.1) ?_ (0, am_fu S 24 (prf (S 24) (fun i => (i : Int)) (u.length + 1)), am_nul, am_nul, am_nul, am_nul) ⟨Nat.zero_le _, fd.rf.up (by decide) _, fun j hj => by dsimp only; rw [fu_self, prf_lt (by omega), lv_0]⟩
  · obtain ⟨S', e, F⟩ := fin
    refine ⟨S', am_cI_of ?_, F⟩
    rw [en_md_farFrom, B_md_farFrom_0]
    refine lp1.trans ?_
    have e8 : ((u.length + 1 : Nat) : Int) = (u.length : Int) + 1 := by omega
    have e7 : (u.length : Int) < ((u.length + 1 : Nat) : Int) := by omega
    (try dsimp only); rw [B_md_farFrom_2]; (try simp (disch := omega) only [Option.bind_some, if_true, if_false, eq_self, not_true_eq_false, not_false_eq_true, am_w_id, if_pos, if_neg, fu_self, fu_ne, Int.toNat_natCast, m_gI_8, m_p_8, T1, e7]); rw [B_md_farFrom_23]; (try simp (disch := omega) only [Option.bind_some, if_true, if_false, eq_self, not_true_eq_false, not_false_eq_true, am_w_id, if_pos, if_neg, fu_self, fu_ne, Int.toNat_natCast, T1, e7])
    exact e
  · rintro ⟨i, U, j3, j4, j5, j6⟩ ⟨p1, p2, p3⟩
    dsimp only at p1 p2 p3 ⊢
    have HU := H.frd p2 (by decide)
    have a0 := fun d => md_lengthOf0 (m := m) (g := g) HU hw d
    have u8 : U 8 0 = (u.length : Int) := by rw [p2 8 (by decide)]; exact T1
    by_cases c : i = p.1.length
    · left
      subst c
      have h3 := p3 u.length (Nat.le_refl _)
      refine ⟨U, ?_, p2⟩
      have e7 : (p.1.length : Int) < ((p.1.length + 1 : Nat) : Int) := by omega
      (try dsimp only); rw [B_md_farFrom_25]; (try simp (disch := omega) only [Option.bind_some, if_true, if_false, eq_self, not_true_eq_false, not_false_eq_true, am_w_id, if_pos, if_neg, fu_self, fu_ne, Int.toNat_natCast, m_gR_2, m_l_2, m_s_2, a0, e7, u8, h3]); rw [B_md_farFrom_182]; (try simp (disch := omega) only [Option.bind_some, if_true, if_false, eq_self, not_true_eq_false, not_false_eq_true, am_w_id, if_pos, if_neg, fu_self, fu_ne, Int.toNat_natCast, m_gR_24, m_l_24, m_s_24, m_gI_8, m_p_8, a0, e7, u8, h3])
    · right
      -- one row
      have row := am_loop (S := Nat × ((Nat → Nat → Int) × (am_V × am_V))) (F := fun s => EV (d + 1) N_md_farFrom T_md_farFrom_55 [.inr (.inr (some (m))), .inl ((w : Int)), .inl (((i + 1 : Nat) : Int)), .inl (lv p.1 u i s.1), .inl (((s.1 + 1 : Nat) : Int)), s.2.2.1, s.2.2.2] [] (MH m g s.2.1))
        (I := fun s => s.1 ≤ u.length ∧ fd [24] S s.2.1 ∧ (∀ j, j ≤ s.1 → s.2.1 24 j = lv p.1 u (i + 1) j) ∧ ∀ j, s.1 < j → j ≤ u.length → s.2.1 24 j = lv p.1 u i j)
        (R := fun o => ∃ V x3 x4 y5 y6, o = EV (d + 1) N_md_farFrom T_md_farFrom_176 [.inr (.inr (some (m))), .inl ((w : Int)), .inl (((i + 1 : Nat) : Int)), .inl (x3), .inl (x4), y5, y6] [] (MH m g V) ∧ fd [24] S V ∧ ∀ j, j ≤ u.length → V 24 j = lv p.1 u (i + 1) j) (fun s => u.length - s.1) ?_ (0, am_fu U 24 (am_fu (U 24) 0 ((i + 1 : Nat) : Int)), j5, j6) ⟨Nat.zero_le _, p2.up (by decide) _, fun j hj => ?_, fun j h1 h2 => ?_⟩
      · obtain ⟨V, x3, x4, y5, y6, e, v1, v2⟩ := row
        refine ⟨(i + 1, V, .inl x3, .inl x4, y5, y6), ⟨by dsimp only; omega, v1, v2⟩, by dsimp only; omega, ?_⟩
        have h0 := p3 0 (Nat.zero_le _)
        have e9 : ((i + 1 : Nat) : Int) + 1 = ((i + 1 + 1 : Nat) : Int) := by omega
        have e6 : EV (d + 1) N_md_farFrom T_md_farFrom_176 [.inr (.inr (some (m))), .inl ((w : Int)), .inl (((i + 1 : Nat) : Int)), .inl (x3), .inl (x4), y5, y6] [] (MH m g V) = EV (d + 1) N_md_farFrom T_md_farFrom_25 [.inr (.inr (some (m))), .inl ((w : Int)), .inl (((i + 1 + 1 : Nat) : Int)), .inl (x3), .inl (x4), y5, y6] [] (MH m g V) := by
          (try dsimp only); rw [B_md_farFrom_176]; (try simp (disch := omega) only [Option.bind_some, if_true, if_false, eq_self, not_true_eq_false, not_false_eq_true, am_w_id, if_pos, if_neg, fu_self, fu_ne, Int.toNat_natCast, e9])
        refine Eq.trans ?_ (e.trans e6)
        have e7 : ¬ (p.1.length : Int) < ((i + 1 : Nat) : Int) := by omega
        (try dsimp only); rw [B_md_farFrom_25]; (try simp (disch := omega) only [Option.bind_some, if_true, if_false, eq_self, not_true_eq_false, not_false_eq_true, am_w_id, if_pos, if_neg, fu_self, fu_ne, Int.toNat_natCast, m_gR_2, m_l_2, m_s_2, a0, e7, h0, Int.toNat_zero]); rw [B_md_farFrom_38]; (try simp (disch := omega) only [Option.bind_some, if_true, if_false, eq_self, not_true_eq_false, not_false_eq_true, am_w_id, if_pos, if_neg, fu_self, fu_ne, Int.toNat_natCast, m_gR_24, m_l_24, m_s_24, a0, e7, h0, Int.toNat_zero])
        rfl
      · rintro ⟨k, V, j5, j6⟩ ⟨q1, q2, q3, q4⟩
        dsimp only at q1 q2 q3 q4 ⊢
        have HV := H.frd q2 (by decide)
        have v8 : V 8 0 = (u.length : Int) := by rw [q2 8 (by decide)]; exact T1
        by_cases ck : k = u.length
        · left
          subst ck
          refine ⟨V, lv p.1 u i u.length, ((u.length + 1 : Nat) : Int), j5, j6, ?_, q2, q3⟩
          have e7 : (u.length : Int) < ((u.length + 1 : Nat) : Int) := by omega
          (try dsimp only); rw [B_md_farFrom_55]; (try simp (disch := omega) only [Option.bind_some, if_true, if_false, eq_self, not_true_eq_false, not_false_eq_true, am_w_id, if_pos, if_neg, fu_self, fu_ne, Int.toNat_natCast, m_gI_8, m_p_8, v8, e7])
        · right
          have hlet := fun d => md_letterOf0 (m := m) (g := g) HV hw (show i < 10 by omega) d
          have v7 : V 7 k = u.getD k 0 := by rw [q2 7 (by decide)]; exact T3 k (by omega)
          have r1 := q4 (k + 1) (by omega) (by omega)
          have r2 := q3 k (Nat.le_refl _)
          have b1 := lv_bd p.1 u _ i (k + 1) (Nat.le_refl _)
          have b2 := lv_bd p.1 u _ (i + 1) k (Nat.le_refl _)
          have b3 := lv_bd p.1 u _ i k (Nat.le_refl _)
          have hss := lv_ss p.1 u i k
          generalize hA : lv p.1 u i (k + 1) = A at *
          generalize lv p.1 u (i + 1) k = B at *
          generalize lv p.1 u i k = C at *
          generalize hD : lv p.1 u (i + 1) (k + 1) = D at *
          have e1 : ((k + 1 : Nat) : Int) - 1 = (k : Int) := by omega
          have e2 : ((i + 1 : Nat) : Int) - 1 = (i : Int) := by omega
          have e9 : ((k + 1 : Nat) : Int) + 1 = ((k + 1 + 1 : Nat) : Int) := by omega
          have e7 : ¬ (u.length : Int) < ((k + 1 : Nat) : Int) := by omega
          obtain ⟨z, hz⟩ : ∃ z : Int, z = if p.1.getD i 0 = u.getD k 0 then 0 else 1 := ⟨_, rfl⟩
          rw [← hz] at hss
          have hzb : z = 0 ∨ z = 1 := by rw [hz]; split <;> omega
          have s1 : EV (d + 1) N_md_farFrom T_md_farFrom_55 [.inr (.inr (some (m))), .inl ((w : Int)), .inl (((i + 1 : Nat) : Int)), .inl (C), .inl (((k + 1 : Nat) : Int)), j5, j6] [] (MH m g V) = EV (d + 1) N_md_farFrom T_md_farFrom_94 [.inr (.inr (some (m))), .inl ((w : Int)), .inl (((i + 1 : Nat) : Int)), .inl (C), .inl (((k + 1 : Nat) : Int)), j5, j6] [.inl (z), .inl (C)] (MH m g V) := by
            by_cases cz : u.getD k 0 = p.1.getD i 0
            · rw [if_pos cz.symm] at hz
              rw [hz]
              (try dsimp only); rw [B_md_farFrom_55]; (try simp (disch := omega) only [Option.bind_some, if_true, if_false, eq_self, not_true_eq_false, not_false_eq_true, am_w_id, if_pos, if_neg, fu_self, fu_ne, Int.toNat_natCast, m_gI_8, m_p_8, v8, e7, e1, e2, v7, hlet, cz]); rw [B_md_farFrom_64]; (try simp (disch := omega) only [Option.bind_some, if_true, if_false, eq_self, not_true_eq_false, not_false_eq_true, am_w_id, if_pos, if_neg, fu_self, fu_ne, Int.toNat_natCast, m_gR_7, m_l_7, m_s_7, m_gR_2, m_l_2, m_s_2, v8, e7, e1, e2, v7, hlet, cz]); rw [B_md_farFrom_89]; (try simp (disch := omega) only [Option.bind_some, if_true, if_false, eq_self, not_true_eq_false, not_false_eq_true, am_w_id, if_pos, if_neg, fu_self, fu_ne, Int.toNat_natCast, v8, e7, e1, e2, v7, hlet, cz])
            · rw [if_neg (fun h => cz h.symm)] at hz
              rw [hz]
              (try dsimp only); rw [B_md_farFrom_55]; (try simp (disch := omega) only [Option.bind_some, if_true, if_false, eq_self, not_true_eq_false, not_false_eq_true, am_w_id, if_pos, if_neg, fu_self, fu_ne, Int.toNat_natCast, m_gI_8, m_p_8, v8, e7, e1, e2, v7, hlet, cz]); rw [B_md_farFrom_64]; (try simp (disch := omega) only [Option.bind_some, if_true, if_false, eq_self, not_true_eq_false, not_false_eq_true, am_w_id, if_pos, if_neg, fu_self, fu_ne, Int.toNat_natCast, m_gR_7, m_l_7, m_s_7, m_gR_2, m_l_2, m_s_2, v8, e7, e1, e2, v7, hlet, cz]); rw [B_md_farFrom_93]; (try simp (disch := omega) only [Option.bind_some, if_true, if_false, eq_self, not_true_eq_false, not_false_eq_true, am_w_id, if_pos, if_neg, fu_self, fu_ne, Int.toNat_natCast, v8, e7, e1, e2, v7, hlet, cz])
          have s2 : EV (d + 1) N_md_farFrom T_md_farFrom_94 [.inr (.inr (some (m))), .inl ((w : Int)), .inl (((i + 1 : Nat) : Int)), .inl (C), .inl (((k + 1 : Nat) : Int)), j5, j6] [.inl (z), .inl (C)] (MH m g V) = EV (d + 1) N_md_farFrom T_md_farFrom_147 [.inr (.inr (some (m))), .inl ((w : Int)), .inl (((i + 1 : Nat) : Int)), .inl (A), .inl (((k + 1 : Nat) : Int)), .inl (C + z), j6] [.inl (am_min A B + 1)] (MH m g V) := by
            have w0 : am_w (C + z) = C + z := am_w_id (by omega) (by omega)
            unfold am_min
            by_cases cm : B < A
            · rw [if_pos cm]
              (try dsimp only); rw [B_md_farFrom_94]; (try simp (disch := omega) only [Option.bind_some, if_true, if_false, eq_self, not_true_eq_false, not_false_eq_true, am_w_id, if_pos, if_neg, fu_self, fu_ne, Int.toNat_natCast, m_gR_24, m_l_24, m_s_24, e1, r1, r2]); rw [B_md_farFrom_136]; (try simp (disch := omega) only [Option.bind_some, if_true, if_false, eq_self, not_true_eq_false, not_false_eq_true, am_w_id, if_pos, if_neg, fu_self, fu_ne, Int.toNat_natCast, m_gR_24, m_l_24, m_s_24, e1, r1, r2])
            · rw [if_neg cm]
              by_cases cm2 : A < B
              · (try dsimp only); rw [B_md_farFrom_94]; (try simp (disch := omega) only [Option.bind_some, if_true, if_false, eq_self, not_true_eq_false, not_false_eq_true, am_w_id, if_pos, if_neg, fu_self, fu_ne, Int.toNat_natCast, m_gR_24, m_l_24, m_s_24, e1, r1, r2]); rw [B_md_farFrom_124]; (try simp (disch := omega) only [Option.bind_some, if_true, if_false, eq_self, not_true_eq_false, not_false_eq_true, am_w_id, if_pos, if_neg, fu_self, fu_ne, Int.toNat_natCast, m_gR_24, m_l_24, m_s_24, e1, r1, r2])
              · have : A = B := by omega
                subst this
                (try dsimp only); rw [B_md_farFrom_94]; (try simp (disch := omega) only [Option.bind_some, if_true, if_false, eq_self, not_true_eq_false, not_false_eq_true, am_w_id, if_pos, if_neg, fu_self, fu_ne, Int.toNat_natCast, m_gR_24, m_l_24, m_s_24, e1, r1, r2]); rw [B_md_farFrom_136]; (try simp (disch := omega) only [Option.bind_some, if_true, if_false, eq_self, not_true_eq_false, not_false_eq_true, am_w_id, if_pos, if_neg, fu_self, fu_ne, Int.toNat_natCast, m_gR_24, m_l_24, m_s_24, e1, r1, r2])
          have s3 : EV (d + 1) N_md_farFrom T_md_farFrom_147 [.inr (.inr (some (m))), .inl ((w : Int)), .inl (((i + 1 : Nat) : Int)), .inl (A), .inl (((k + 1 : Nat) : Int)), .inl (C + z), j6] [.inl (am_min A B + 1)] (MH m g V) = EV (d + 1) N_md_farFrom T_md_farFrom_55 [.inr (.inr (some (m))), .inl ((w : Int)), .inl (((i + 1 : Nat) : Int)), .inl (A), .inl (((k + 1 + 1 : Nat) : Int)), .inl (C + z), .inl (am_min A B + 1)] [] (MH m g (am_fu V 24 (am_fu (V 24) (k + 1) D))) := by
            rw [hss]
            generalize am_min A B + 1 = Y
            unfold am_min
            by_cases cm : C + z < Y
            · rw [if_pos cm]
              (try dsimp only); rw [B_md_farFrom_147]; (try simp (disch := omega) only [Option.bind_some, if_true, if_false, eq_self, not_true_eq_false, not_false_eq_true, am_w_id, if_pos, if_neg, fu_self, fu_ne, Int.toNat_natCast, m_gR_24, m_l_24, m_s_24, e9, m_s_24]); rw [B_md_farFrom_162]; (try simp (disch := omega) only [Option.bind_some, if_true, if_false, eq_self, not_true_eq_false, not_false_eq_true, am_w_id, if_pos, if_neg, fu_self, fu_ne, Int.toNat_natCast, e9, m_s_24]); rw [B_md_farFrom_169]; (try simp (disch := omega) only [Option.bind_some, if_true, if_false, eq_self, not_true_eq_false, not_false_eq_true, am_w_id, if_pos, if_neg, fu_self, fu_ne, Int.toNat_natCast, e9, m_s_24])
            · rw [if_neg cm]
              (try dsimp only); rw [B_md_farFrom_147]; (try simp (disch := omega) only [Option.bind_some, if_true, if_false, eq_self, not_true_eq_false, not_false_eq_true, am_w_id, if_pos, if_neg, fu_self, fu_ne, Int.toNat_natCast, m_gR_24, m_l_24, m_s_24, e9, m_s_24]); rw [B_md_farFrom_167]; (try simp (disch := omega) only [Option.bind_some, if_true, if_false, eq_self, not_true_eq_false, not_false_eq_true, am_w_id, if_pos, if_neg, fu_self, fu_ne, Int.toNat_natCast, e9, m_s_24]); rw [B_md_farFrom_169]; (try simp (disch := omega) only [Option.bind_some, if_true, if_false, eq_self, not_true_eq_false, not_false_eq_true, am_w_id, if_pos, if_neg, fu_self, fu_ne, Int.toNat_natCast, e9, m_s_24])
          refine ⟨(k + 1, am_fu V 24 (am_fu (V 24) (k + 1) D), .inl (C + z), .inl (am_min A B + 1)), ⟨by dsimp only; omega, q2.up (by decide) _, fun j hj => ?_, fun j h1 h2 => ?_⟩, by dsimp only; omega, s1.trans (s2.trans ?_)⟩
          · dsimp only at hj ⊢
            rw [fu_self]
            by_cases cj : j = k + 1
            · subst cj; rw [fu_self, hD]
            · rw [fu_ne cj]; exact q3 j (by omega)
          · dsimp only at h1 ⊢
            rw [fu_self, fu_ne (by omega)]
            exact q4 j (by omega) h2
          · dsimp only
            rw [hA]
            exact s3
      · dsimp only at hj ⊢
        have : j = 0 := by omega
        subst this
        rw [fu_self, fu_self, lv_n0]
      · dsimp only at h1 ⊢
        rw [fu_self, fu_ne (by omega)]
        exact p3 j h2
theorem mo_near (H : MR S t ws bs hs sh) (O : okS t ws bs hs sh) (x k : Int) (d : Nat) : ∃ S', am_cI (d + 2) N_md_near [.inr (.inr (some (m))), .inl (x), .inl (k)] (MH m g S) = some ((sp_near x k (t, ws, bs, hs, sh)).1, MH m g S') ∧ MS S' (sp_near x k (t, ws, bs, hs, sh)).2 := by
  obtain ⟨S1, e1, T1, H1⟩ := mo_isLetters (m := m) (g := g) H 0 10 (d + 0)
  have O1 := okS_t O
  have hl := O.2.1.2.2
  unfold sp_near
  dsimp only [noT, MS]
  by_cases c : t.length ≤ 10 ∧ allL t
  · rw [if_pos ⟨⟨by omega, by omega⟩, c.2⟩] at e1
    by_cases cd : 0 ≤ x ∧ x ≤ 3
    · have i1 : ∀ d h, am_cI d N_md_isIn [.inr (.inl (x)), .inr (.inl (0)), .inr (.inl (3))] h = some (1, h) := fun d h => by rw [md_isIn, if_pos cd]
      by_cases ck : -1 ≤ k
      · rw [if_pos ⟨c, cd, ck⟩]
        have hu : (lw t).length ≤ 10 := by rw [lw_len]; exact c.1
        generalize hres : pk (fun i => decide (lv (wdi ws i) (lw t) (wdi ws i).length (lw t).length ≤ x)) k 0 ws.length 0 = res
        have start : am_call (d + 2) N_md_near [.inr (.inr (some (m))), .inl (x), .inl (k)] (MH m g S) = EV (d + 2) N_md_near T_md_near_34 [.inr (.inr (some (m))), .inl (x), .inl (k), .inl (0), .inl (((0 : Nat) : Int))] [] (MH m g S1) := by
          (try dsimp only); rw [en_md_near]; (try simp (disch := omega) only [Option.bind_some, if_true, if_false, eq_self, not_true_eq_false, not_false_eq_true, am_w_id, if_pos, if_neg, fu_self, fu_ne, Int.toNat_natCast, e1, i1, show ¬ (1 : Int) = 0 by decide]); rw [B_md_near_0]; (try simp (disch := omega) only [Option.bind_some, if_true, if_false, eq_self, not_true_eq_false, not_false_eq_true, am_w_id, if_pos, if_neg, fu_self, fu_ne, Int.toNat_natCast, m_O, e1, i1, show ¬ (1 : Int) = 0 by decide]); rw [B_md_near_10]; (try simp (disch := omega) only [Option.bind_some, if_true, if_false, eq_self, not_true_eq_false, not_false_eq_true, am_w_id, if_pos, if_neg, fu_self, fu_ne, Int.toNat_natCast, e1, i1, show ¬ (1 : Int) = 0 by decide]); rw [B_md_near_22]; (try simp (disch := omega) only [Option.bind_some, if_true, if_false, eq_self, not_true_eq_false, not_false_eq_true, am_w_id, if_pos, if_neg, fu_self, fu_ne, Int.toNat_natCast, e1, i1, show ¬ (1 : Int) = 0 by decide]); rw [B_md_near_29]; (try simp (disch := omega) only [Option.bind_some, if_true, if_false, eq_self, not_true_eq_false, not_false_eq_true, am_w_id, if_pos, if_neg, fu_self, fu_ne, Int.toNat_natCast, e1, i1, show ¬ (1 : Int) = 0 by decide])
          rfl
        have main := am_loop (S := Nat × (Int × (Nat → Nat → Int))) (F := fun s => EV (d + 2) N_md_near T_md_near_34 [.inr (.inr (some (m))), .inl (x), .inl (k), .inl (s.2.1), .inl ((s.1 : Int))] [] (MH m g s.2.2)) (I := fun s => s.1 ≤ ws.length ∧ (0 ≤ s.2.1 ∧ s.2.1 ≤ s.1) ∧ fd [24] S1 s.2.2 ∧ pk (fun i => decide (lv (wdi ws i) (lw t) (wdi ws i).length (lw t).length ≤ x)) k s.1 (ws.length - s.1) s.2.1 = res)
          (R := fun o => ∃ S', o = some (some (.inl res), MH m g S') ∧ fd [24] S1 S') (fun s => ws.length - s.1) ?_ (0, 0, S1) ⟨Nat.zero_le _, ⟨Int.le_refl _, Int.le_refl _⟩, fd.rf, hres⟩
        · obtain ⟨S', e, F⟩ := main
          exact ⟨S', am_cI_of (start.trans e), H1.frd F (by decide)⟩
        · rintro ⟨w, f, U⟩ ⟨p1, p2, p3, p4⟩
          dsimp only at p1 p2 p3 p4 ⊢
          have HU := H1.frd p3 (by decide)
          have TU := T1.fd p3 (by decide)
          have u1 := HU.2.1.1
          by_cases cw' : w = ws.length
          · left
            subst cw'
            rw [pk_end] at p4
            by_cases ck1 : k = -1
            · rw [if_pos ck1] at p4
              refine ⟨U, ?_, p3⟩
              (try dsimp only); rw [B_md_near_34]; (try simp (disch := omega) only [Option.bind_some, if_true, if_false, eq_self, not_true_eq_false, not_false_eq_true, am_w_id, if_pos, if_neg, fu_self, fu_ne, Int.toNat_natCast, m_gR_2, m_l_2, m_s_2, u1, ck1, Int.reduceToNat]); rw [B_md_near_75]; (try simp (disch := omega) only [Option.bind_some, if_true, if_false, eq_self, not_true_eq_false, not_false_eq_true, am_w_id, if_pos, if_neg, fu_self, fu_ne, Int.toNat_natCast, u1, ck1, Int.reduceToNat]); rw [B_md_near_80]; (try simp (disch := omega) only [Option.bind_some, if_true, if_false, eq_self, not_true_eq_false, not_false_eq_true, am_w_id, if_pos, if_neg, fu_self, fu_ne, Int.toNat_natCast, u1, ck1, Int.reduceToNat]); rw [B_md_near_86]; (try simp (disch := omega) only [Option.bind_some, if_true, if_false, eq_self, not_true_eq_false, not_false_eq_true, am_w_id, if_pos, if_neg, fu_self, fu_ne, Int.toNat_natCast, u1, ck1, Int.reduceToNat])
              rw [p4]
            · rw [if_neg ck1] at p4
              refine ⟨U, ?_, p3⟩
              (try dsimp only); rw [B_md_near_34]; (try simp (disch := omega) only [Option.bind_some, if_true, if_false, eq_self, not_true_eq_false, not_false_eq_true, am_w_id, if_pos, if_neg, fu_self, fu_ne, Int.toNat_natCast, m_gR_2, m_l_2, m_s_2, u1, ck1, Int.reduceToNat]); rw [B_md_near_75]; (try simp (disch := omega) only [Option.bind_some, if_true, if_false, eq_self, not_true_eq_false, not_false_eq_true, am_w_id, if_pos, if_neg, fu_self, fu_ne, Int.toNat_natCast, u1, ck1, Int.reduceToNat]); rw [B_md_near_84]; (try simp (disch := omega) only [Option.bind_some, if_true, if_false, eq_self, not_true_eq_false, not_false_eq_true, am_w_id, if_pos, if_neg, fu_self, fu_ne, Int.toNat_natCast, u1, ck1, Int.reduceToNat]); rw [B_md_near_86]; (try simp (disch := omega) only [Option.bind_some, if_true, if_false, eq_self, not_true_eq_false, not_false_eq_true, am_w_id, if_pos, if_neg, fu_self, fu_ne, Int.toNat_natCast, u1, ck1, Int.reduceToNat])
              rw [p4]
          · have hwl : w < ws.length := by omega
            have hget : ws[w]? = some ws[w] := List.getElem?_eq_getElem hwl
            obtain ⟨V, e2, F2⟩ := md_farFrom (m := m) (g := g) HU O1 TU hu hget d
            rw [pk_step hwl, wdi_get hget] at p4
            have e9 : (w : Int) + 1 = ((w + 1 : Nat) : Int) := by omega
            by_cases cf : lv ws[w].1 (lw t) ws[w].1.length (lw t).length ≤ x
            · rw [if_pos (decide_eq_true cf)] at p4
              by_cases ce : f = k
              · left
                rw [if_pos ce] at p4
                refine ⟨V, ?_, p3.tr F2⟩
                (try dsimp only); rw [B_md_near_34]; (try simp (disch := omega) only [Option.bind_some, if_true, if_false, eq_self, not_true_eq_false, not_false_eq_true, am_w_id, if_pos, if_neg, fu_self, fu_ne, Int.toNat_natCast, m_gR_2, m_l_2, m_s_2, u1, e2, cf, ce, Int.reduceToNat]); rw [B_md_near_45]; (try simp (disch := omega) only [Option.bind_some, if_true, if_false, eq_self, not_true_eq_false, not_false_eq_true, am_w_id, if_pos, if_neg, fu_self, fu_ne, Int.toNat_natCast, m_O, u1, e2, cf, ce, Int.reduceToNat]); rw [B_md_near_58]; (try simp (disch := omega) only [Option.bind_some, if_true, if_false, eq_self, not_true_eq_false, not_false_eq_true, am_w_id, if_pos, if_neg, fu_self, fu_ne, Int.toNat_natCast, u1, e2, cf, ce, Int.reduceToNat]); rw [B_md_near_63]; (try simp (disch := omega) only [Option.bind_some, if_true, if_false, eq_self, not_true_eq_false, not_false_eq_true, am_w_id, if_pos, if_neg, fu_self, fu_ne, Int.toNat_natCast, u1, e2, cf, ce, Int.reduceToNat])
                rw [p4]
              · right
                rw [if_neg ce] at p4
                refine ⟨(w + 1, f + 1, V), ⟨by dsimp only; omega, ⟨by dsimp only; omega, by dsimp only; omega⟩, p3.tr F2, p4⟩, by dsimp only; omega, ?_⟩
                (try dsimp only); rw [B_md_near_34]; (try simp (disch := omega) only [Option.bind_some, if_true, if_false, eq_self, not_true_eq_false, not_false_eq_true, am_w_id, if_pos, if_neg, fu_self, fu_ne, Int.toNat_natCast, m_gR_2, m_l_2, m_s_2, u1, e2, cf, ce, e9, Int.reduceToNat]); rw [B_md_near_45]; (try simp (disch := omega) only [Option.bind_some, if_true, if_false, eq_self, not_true_eq_false, not_false_eq_true, am_w_id, if_pos, if_neg, fu_self, fu_ne, Int.toNat_natCast, m_O, u1, e2, cf, ce, e9, Int.reduceToNat]); rw [B_md_near_58]; (try simp (disch := omega) only [Option.bind_some, if_true, if_false, eq_self, not_true_eq_false, not_false_eq_true, am_w_id, if_pos, if_neg, fu_self, fu_ne, Int.toNat_natCast, u1, e2, cf, ce, e9, Int.reduceToNat]); rw [B_md_near_66]; (try simp (disch := omega) only [Option.bind_some, if_true, if_false, eq_self, not_true_eq_false, not_false_eq_true, am_w_id, if_pos, if_neg, fu_self, fu_ne, Int.toNat_natCast, u1, e2, cf, ce, e9, Int.reduceToNat]); rw [B_md_near_69]; (try simp (disch := omega) only [Option.bind_some, if_true, if_false, eq_self, not_true_eq_false, not_false_eq_true, am_w_id, if_pos, if_neg, fu_self, fu_ne, Int.toNat_natCast, u1, e2, cf, ce, e9, Int.reduceToNat])
            · right
              rw [if_neg (fun h => cf (of_decide_eq_true h))] at p4
              refine ⟨(w + 1, f, V), ⟨by dsimp only; omega, ⟨by dsimp only; omega, by dsimp only; omega⟩, p3.tr F2, p4⟩, by dsimp only; omega, ?_⟩
              (try dsimp only); rw [B_md_near_34]; (try simp (disch := omega) only [Option.bind_some, if_true, if_false, eq_self, not_true_eq_false, not_false_eq_true, am_w_id, if_pos, if_neg, fu_self, fu_ne, Int.toNat_natCast, m_gR_2, m_l_2, m_s_2, u1, e2, cf, e9, Int.reduceToNat]); rw [B_md_near_45]; (try simp (disch := omega) only [Option.bind_some, if_true, if_false, eq_self, not_true_eq_false, not_false_eq_true, am_w_id, if_pos, if_neg, fu_self, fu_ne, Int.toNat_natCast, m_O, u1, e2, cf, e9, Int.reduceToNat]); rw [B_md_near_55]; (try simp (disch := omega) only [Option.bind_some, if_true, if_false, eq_self, not_true_eq_false, not_false_eq_true, am_w_id, if_pos, if_neg, fu_self, fu_ne, Int.toNat_natCast, u1, e2, cf, e9, Int.reduceToNat]); rw [B_md_near_69]; (try simp (disch := omega) only [Option.bind_some, if_true, if_false, eq_self, not_true_eq_false, not_false_eq_true, am_w_id, if_pos, if_neg, fu_self, fu_ne, Int.toNat_natCast, u1, e2, cf, e9, Int.reduceToNat])
      · rw [if_neg (fun h => ck h.2.2)]
        refine ⟨S1, am_cI_of ?_, H1⟩
        (try dsimp only); rw [en_md_near]; (try simp (disch := omega) only [Option.bind_some, if_true, if_false, eq_self, not_true_eq_false, not_false_eq_true, am_w_id, if_pos, if_neg, fu_self, fu_ne, Int.toNat_natCast, e1, i1, ck, show ¬ (1 : Int) = 0 by decide]); rw [B_md_near_0]; (try simp (disch := omega) only [Option.bind_some, if_true, if_false, eq_self, not_true_eq_false, not_false_eq_true, am_w_id, if_pos, if_neg, fu_self, fu_ne, Int.toNat_natCast, m_O, e1, i1, ck, show ¬ (1 : Int) = 0 by decide]); rw [B_md_near_10]; (try simp (disch := omega) only [Option.bind_some, if_true, if_false, eq_self, not_true_eq_false, not_false_eq_true, am_w_id, if_pos, if_neg, fu_self, fu_ne, Int.toNat_natCast, e1, i1, ck, show ¬ (1 : Int) = 0 by decide]); rw [B_md_near_22]; (try simp (disch := omega) only [Option.bind_some, if_true, if_false, eq_self, not_true_eq_false, not_false_eq_true, am_w_id, if_pos, if_neg, fu_self, fu_ne, Int.toNat_natCast, e1, i1, ck, show ¬ (1 : Int) = 0 by decide]); rw [B_md_near_27]; (try simp (disch := omega) only [Option.bind_some, if_true, if_false, eq_self, not_true_eq_false, not_false_eq_true, am_w_id, if_pos, if_neg, fu_self, fu_ne, Int.toNat_natCast, e1, i1, ck, show ¬ (1 : Int) = 0 by decide])
    · rw [if_neg (fun h => cd h.2.1)]
      have i1 : ∀ d h, am_cI d N_md_isIn [.inr (.inl (x)), .inr (.inl (0)), .inr (.inl (3))] h = some (0, h) := fun d h => by rw [md_isIn, if_neg cd]
      refine ⟨S1, am_cI_of ?_, H1⟩
      (try dsimp only); rw [en_md_near]; (try simp (disch := omega) only [Option.bind_some, if_true, if_false, eq_self, not_true_eq_false, not_false_eq_true, am_w_id, if_pos, if_neg, fu_self, fu_ne, Int.toNat_natCast, e1, i1, show ¬ (1 : Int) = 0 by decide]); rw [B_md_near_0]; (try simp (disch := omega) only [Option.bind_some, if_true, if_false, eq_self, not_true_eq_false, not_false_eq_true, am_w_id, if_pos, if_neg, fu_self, fu_ne, Int.toNat_natCast, m_O, e1, i1, show ¬ (1 : Int) = 0 by decide]); rw [B_md_near_10]; (try simp (disch := omega) only [Option.bind_some, if_true, if_false, eq_self, not_true_eq_false, not_false_eq_true, am_w_id, if_pos, if_neg, fu_self, fu_ne, Int.toNat_natCast, e1, i1, show ¬ (1 : Int) = 0 by decide]); rw [B_md_near_27]; (try simp (disch := omega) only [Option.bind_some, if_true, if_false, eq_self, not_true_eq_false, not_false_eq_true, am_w_id, if_pos, if_neg, fu_self, fu_ne, Int.toNat_natCast, e1, i1, show ¬ (1 : Int) = 0 by decide])
  · rw [if_neg (fun h => c ⟨by omega, h.2⟩)] at e1
    rw [if_neg (fun h => c h.1)]
    refine ⟨S1, am_cI_of ?_, H1⟩
    (try dsimp only); rw [en_md_near]; (try simp (disch := omega) only [Option.bind_some, if_true, if_false, eq_self, not_true_eq_false, not_false_eq_true, am_w_id, if_pos, if_neg, fu_self, fu_ne, Int.toNat_natCast, e1]); rw [B_md_near_0]; (try simp (disch := omega) only [Option.bind_some, if_true, if_false, eq_self, not_true_eq_false, not_false_eq_true, am_w_id, if_pos, if_neg, fu_self, fu_ne, Int.toNat_natCast, m_O, e1]); rw [B_md_near_27]; (try simp (disch := omega) only [Option.bind_some, if_true, if_false, eq_self, not_true_eq_false, not_false_eq_true, am_w_id, if_pos, if_neg, fu_self, fu_ne, Int.toNat_natCast, e1])
theorem md_readsPattern (H : MR S t ws bs hs sh) (d : Nat) : ∃ (r : Int) (S' : Nat → Nat → Int), am_cI (d + 1) N_md_readsPattern [.inr (.inr (some (m)))] (MH m g S) = some (r, MH m g S') ∧ ((r = 1 ∧ isPat t) ∨ (r = 0 ∧ ¬ isPat t)) ∧ MR S' [] ws bs hs sh ∧ S' 26 0 = t.length ∧ ∀ i, i < t.length → S' 25 i = sgn (t.getD i 0) := by
  obtain ⟨T1, T2, T3, T4⟩ := id H.1
  have i0 : ∃ x3 : Int, (∀ d h, am_cI d N_md_isIn [.inr (.inl ((t.length : Int))), .inr (.inl (1)), .inr (.inl (12))] h = some (x3, h)) ∧ ((x3 = 1 ∧ 1 ≤ t.length ∧ t.length ≤ 12) ∨ (x3 = 0 ∧ ¬ (1 ≤ t.length ∧ t.length ≤ 12))) := by
    by_cases c : 1 ≤ t.length ∧ t.length ≤ 12
    · exact ⟨1, fun d h => by rw [md_isIn, if_pos (by omega)], Or.inl ⟨rfl, c⟩⟩
    · exact ⟨0, fun d h => by rw [md_isIn, if_neg (by omega)], Or.inr ⟨rfl, c⟩⟩
  obtain ⟨y3, i1, hy3⟩ := i0
  have start : am_call (d + 1) N_md_readsPattern [.inr (.inr (some (m)))] (MH m g S) = EV (d + 1) N_md_readsPattern T_md_readsPattern_23 [.inr (.inr (some (m))), .inl (y3), .inl (((0 : Nat) : Int)), am_nul] [] (MH m g (am_fu S 26 (fun _ => (t.length : Int)))) := by
    (try dsimp only); rw [en_md_readsPattern]; (try simp (disch := omega) only [Option.bind_some, if_true, if_false, eq_self, not_true_eq_false, not_false_eq_true, am_w_id, if_pos, if_neg, fu_self, fu_ne, Int.toNat_natCast, i1, T1]); rw [B_md_readsPattern_0]; (try simp (disch := omega) only [Option.bind_some, if_true, if_false, eq_self, not_true_eq_false, not_false_eq_true, am_w_id, if_pos, if_neg, fu_self, fu_ne, Int.toNat_natCast, m_gI_1, m_p_1, m_gI_26, m_p_26, i1, T1])
    rfl
  have all_s : ∀ k, k < t.length → ((∀ x ∈ t.take (k + 1), sgO x) ↔ (∀ x ∈ t.take k, sgO x) ∧ sgO (t.getD k 0)) := by
    intro k hk
    have hg : t[k]? = some (t.getD k 0) := by rw [gd_s hk]; exact List.getElem?_eq_getElem hk
    rw [tk_s hg]
    constructor
    · intro h; exact ⟨fun x hx => h x (List.mem_append_left _ hx), h _ (by simp)⟩
    · rintro ⟨h1, h2⟩ x hx
      rcases List.mem_append.mp hx with h | h
      · exact h1 x h
      · rw [List.mem_singleton.mp h]; exact h2
  have main := am_loop (S := Nat × (Int × ((Nat → Nat → Int) × am_V))) (F := fun s => EV (d + 1) N_md_readsPattern T_md_readsPattern_23 [.inr (.inr (some (m))), .inl (s.2.1), .inl ((s.1 : Int)), s.2.2.2] [] (MH m g s.2.2.1)) (I := fun s => s.1 ≤ t.length ∧ fd [25, 26] S s.2.2.1 ∧ s.2.2.1 26 0 = t.length ∧ (∀ i, i < s.1 → s.2.2.1 25 i = sgn (t.getD i 0)) ∧ ((s.2.1 = 1 ∧ (1 ≤ t.length ∧ t.length ≤ 12) ∧ ∀ x ∈ t.take s.1, sgO x) ∨ (s.2.1 = 0 ∧ ¬ ((1 ≤ t.length ∧ t.length ≤ 12) ∧ ∀ x ∈ t.take s.1, sgO x))))
    (R := fun o => ∃ (r : Int) (S' : Nat → Nat → Int), o = some (some (.inl r), MH m g S') ∧ ((r = 1 ∧ isPat t) ∨ (r = 0 ∧ ¬ isPat t)) ∧ MR S' [] ws bs hs sh ∧ S' 26 0 = t.length ∧ ∀ i, i < t.length → S' 25 i = sgn (t.getD i 0)) (fun s => t.length - s.1) ?_ (0, y3, am_fu S 26 (fun _ => (t.length : Int)), am_nul) ⟨Nat.zero_le _, fd.rf.up (by decide) _, by dsimp only; rw [fu_self], fun i hi => by simp at hi, ?_⟩
  · obtain ⟨r, S', e, h1, h2⟩ := main
    exact ⟨r, S', am_cI_of (start.trans e), h1, h2⟩
  · rintro ⟨k, x, U, j3⟩ ⟨p1, p2, p3, p4, p5⟩
    dsimp only at p1 p2 p3 p4 p5 ⊢
    have HU := H.frd p2 (by decide)
    have u1 := HU.1.1
    by_cases ck : k = t.length
    · left
      subst ck
      rw [List.take_length] at p5
      have hx : 0 ≤ x ∧ x < 2 := by rcases p5 with h | h <;> omega
      refine ⟨x, am_fu U 1 (fun _ => 0), ?_, p5, HU.frt (l := [1]) (fd.rf.up (by decide) _) (by decide) ⟨by rw [fu_self]; rfl, by simp, fun x hx => by simp at hx, fun i hi => by simp at hi⟩, by rw [fu_ne (by decide)]; exact p3, fun i hi => by rw [fu_ne (by decide)]; exact p4 i hi⟩
      (try dsimp only); rw [B_md_readsPattern_23]; (try simp (disch := omega) only [Option.bind_some, if_true, if_false, eq_self, not_true_eq_false, not_false_eq_true, am_w_id, if_pos, if_neg, fu_self, fu_ne, Int.toNat_natCast, m_gI_1, m_p_1, u1]); rw [B_md_readsPattern_111]; (try simp (disch := omega) only [Option.bind_some, if_true, if_false, eq_self, not_true_eq_false, not_false_eq_true, am_w_id, if_pos, if_neg, fu_self, fu_ne, Int.toNat_natCast, m_gI_1, m_p_1, u1])
    · right
      have hk : k < t.length := by omega
      have hby := fun d => md_byteAt (m := m) (g := g) HU.1 (k := (k : Int)) (by omega) d
      rw [tb_get hk] at hby
      have hbb := by_get T3 hk
      have hall := all_s k hk
      have e9 : (k : Int) + 1 = ((k + 1 : Nat) : Int) := by omega
      generalize hv : t.getD k 0 = v at *
      -- the sign is put
      have s1 : EV (d + 1) N_md_readsPattern T_md_readsPattern_23 [.inr (.inr (some (m))), .inl (x), .inl ((k : Int)), j3] [] (MH m g U) = EV (d + 1) N_md_readsPattern T_md_readsPattern_68 [.inr (.inr (some (m))), .inl (x), .inl ((k : Int)), .inl (v)] [.inl (sgn v), .inl ((k : Int)), .inr (.inr (some (m + 18)))] (MH m g U) := by
        unfold sgn
        by_cases c1 : v = 63
        · rw [if_pos c1]
          (try dsimp only); rw [B_md_readsPattern_23]; (try simp (disch := omega) only [Option.bind_some, if_true, if_false, eq_self, not_true_eq_false, not_false_eq_true, am_w_id, if_pos, if_neg, fu_self, fu_ne, Int.toNat_natCast, m_gI_1, m_p_1, u1, hby, c1]); rw [B_md_readsPattern_31]; (try simp (disch := omega) only [Option.bind_some, if_true, if_false, eq_self, not_true_eq_false, not_false_eq_true, am_w_id, if_pos, if_neg, fu_self, fu_ne, Int.toNat_natCast, m_gR_25, m_l_25, m_s_25, m_O, u1, hby, c1]); rw [B_md_readsPattern_48]; (try simp (disch := omega) only [Option.bind_some, if_true, if_false, eq_self, not_true_eq_false, not_false_eq_true, am_w_id, if_pos, if_neg, fu_self, fu_ne, Int.toNat_natCast, u1, hby, c1])
        · rw [if_neg c1]
          by_cases c2 : v = 42
          · rw [if_pos c2]
            (try dsimp only); rw [B_md_readsPattern_23]; (try simp (disch := omega) only [Option.bind_some, if_true, if_false, eq_self, not_true_eq_false, not_false_eq_true, am_w_id, if_pos, if_neg, fu_self, fu_ne, Int.toNat_natCast, m_gI_1, m_p_1, u1, hby, c1, c2, show ¬ (42 : Int) = 63 by decide]); rw [B_md_readsPattern_31]; (try simp (disch := omega) only [Option.bind_some, if_true, if_false, eq_self, not_true_eq_false, not_false_eq_true, am_w_id, if_pos, if_neg, fu_self, fu_ne, Int.toNat_natCast, m_gR_25, m_l_25, m_s_25, m_O, u1, hby, c1, c2, show ¬ (42 : Int) = 63 by decide]); rw [B_md_readsPattern_52]; (try simp (disch := omega) only [Option.bind_some, if_true, if_false, eq_self, not_true_eq_false, not_false_eq_true, am_w_id, if_pos, if_neg, fu_self, fu_ne, Int.toNat_natCast, u1, hby, c1, c2, show ¬ (42 : Int) = 63 by decide]); rw [B_md_readsPattern_58]; (try simp (disch := omega) only [Option.bind_some, if_true, if_false, eq_self, not_true_eq_false, not_false_eq_true, am_w_id, if_pos, if_neg, fu_self, fu_ne, Int.toNat_natCast, u1, hby, c1, c2, show ¬ (42 : Int) = 63 by decide])
          · rw [if_neg c2]
            have e8 : v - 97 + 1 = v - 96 := by omega
            (try dsimp only); rw [B_md_readsPattern_23]; (try simp (disch := omega) only [Option.bind_some, if_true, if_false, eq_self, not_true_eq_false, not_false_eq_true, am_w_id, if_pos, if_neg, fu_self, fu_ne, Int.toNat_natCast, m_gI_1, m_p_1, u1, hby, c1, c2, e8]); rw [B_md_readsPattern_31]; (try simp (disch := omega) only [Option.bind_some, if_true, if_false, eq_self, not_true_eq_false, not_false_eq_true, am_w_id, if_pos, if_neg, fu_self, fu_ne, Int.toNat_natCast, m_gR_25, m_l_25, m_s_25, m_O, u1, hby, c1, c2, e8]); rw [B_md_readsPattern_52]; (try simp (disch := omega) only [Option.bind_some, if_true, if_false, eq_self, not_true_eq_false, not_false_eq_true, am_w_id, if_pos, if_neg, fu_self, fu_ne, Int.toNat_natCast, u1, hby, c1, c2, e8]); rw [B_md_readsPattern_62]; (try simp (disch := omega) only [Option.bind_some, if_true, if_false, eq_self, not_true_eq_false, not_false_eq_true, am_w_id, if_pos, if_neg, fu_self, fu_ne, Int.toNat_natCast, u1, hby, c1, c2, e8])
      obtain ⟨V, hV⟩ : ∃ V, V = am_fu U 25 (am_fu (U 25) k (sgn v)) := ⟨_, rfl⟩
      have V25 : ∀ i, i < k + 1 → V 25 i = sgn (t.getD i 0) := fun i hi => by
        rw [hV, fu_self]
        by_cases ci : i = k
        · subst ci; rw [fu_self, hv]
        · rw [fu_ne ci]; exact p4 i (by omega)
      have V26 : V 26 0 = t.length := by rw [hV, fu_ne (by decide)]; exact p3
      have FV : fd [25, 26] S V := by rw [hV]; exact p2.up (by decide) _
      rcases p5 with ⟨q1, q2, q3⟩ | ⟨q1, q2⟩
      · subst q1
        by_cases c1 : v = 63
        · refine ⟨(k + 1, 1, V, .inl v), ⟨by dsimp only; omega, FV, V26, V25, Or.inl ⟨rfl, q2, hall.mpr ⟨q3, Or.inl c1⟩⟩⟩, by dsimp only; omega, s1.trans ?_⟩
          (try dsimp only); rw [B_md_readsPattern_68]; (try simp (disch := omega) only [Option.bind_some, if_true, if_false, eq_self, not_true_eq_false, not_false_eq_true, am_w_id, if_pos, if_neg, fu_self, fu_ne, Int.toNat_natCast, m_s_25, ← hV, c1, e9, show ¬ (1 : Int) = 0 by decide]); rw [B_md_readsPattern_73]; (try simp (disch := omega) only [Option.bind_some, if_true, if_false, eq_self, not_true_eq_false, not_false_eq_true, am_w_id, if_pos, if_neg, fu_self, fu_ne, Int.toNat_natCast, m_s_25, ← hV, c1, e9, show ¬ (1 : Int) = 0 by decide]); rw [B_md_readsPattern_99]; (try simp (disch := omega) only [Option.bind_some, if_true, if_false, eq_self, not_true_eq_false, not_false_eq_true, am_w_id, if_pos, if_neg, fu_self, fu_ne, Int.toNat_natCast, m_s_25, ← hV, c1, e9, show ¬ (1 : Int) = 0 by decide]); rw [B_md_readsPattern_104]; (try simp (disch := omega) only [Option.bind_some, if_true, if_false, eq_self, not_true_eq_false, not_false_eq_true, am_w_id, if_pos, if_neg, fu_self, fu_ne, Int.toNat_natCast, m_s_25, ← hV, c1, e9, show ¬ (1 : Int) = 0 by decide])
          rw [hV, c1]
        · by_cases c2 : v = 42
          · refine ⟨(k + 1, 1, V, .inl v), ⟨by dsimp only; omega, FV, V26, V25, Or.inl ⟨rfl, q2, hall.mpr ⟨q3, Or.inr (Or.inl c2)⟩⟩⟩, by dsimp only; omega, s1.trans ?_⟩
            (try dsimp only); rw [B_md_readsPattern_68]; (try simp (disch := omega) only [Option.bind_some, if_true, if_false, eq_self, not_true_eq_false, not_false_eq_true, am_w_id, if_pos, if_neg, fu_self, fu_ne, Int.toNat_natCast, m_s_25, ← hV, c1, c2, e9, show ¬ (1 : Int) = 0 by decide, show ¬ (42 : Int) = 63 by decide]); rw [B_md_readsPattern_73]; (try simp (disch := omega) only [Option.bind_some, if_true, if_false, eq_self, not_true_eq_false, not_false_eq_true, am_w_id, if_pos, if_neg, fu_self, fu_ne, Int.toNat_natCast, m_s_25, ← hV, c1, c2, e9, show ¬ (1 : Int) = 0 by decide, show ¬ (42 : Int) = 63 by decide]); rw [B_md_readsPattern_79]; (try simp (disch := omega) only [Option.bind_some, if_true, if_false, eq_self, not_true_eq_false, not_false_eq_true, am_w_id, if_pos, if_neg, fu_self, fu_ne, Int.toNat_natCast, m_s_25, ← hV, c1, c2, e9, show ¬ (1 : Int) = 0 by decide, show ¬ (42 : Int) = 63 by decide]); rw [B_md_readsPattern_99]; (try simp (disch := omega) only [Option.bind_some, if_true, if_false, eq_self, not_true_eq_false, not_false_eq_true, am_w_id, if_pos, if_neg, fu_self, fu_ne, Int.toNat_natCast, m_s_25, ← hV, c1, c2, e9, show ¬ (1 : Int) = 0 by decide, show ¬ (42 : Int) = 63 by decide]); rw [B_md_readsPattern_104]; (try simp (disch := omega) only [Option.bind_some, if_true, if_false, eq_self, not_true_eq_false, not_false_eq_true, am_w_id, if_pos, if_neg, fu_self, fu_ne, Int.toNat_natCast, m_s_25, ← hV, c1, c2, e9, show ¬ (1 : Int) = 0 by decide, show ¬ (42 : Int) = 63 by decide])
            rw [hV, c2]
          · by_cases c3 : 97 ≤ v ∧ v ≤ 122
            · have i4 : ∀ d h, am_cI d N_md_isIn [.inr (.inl (v)), .inr (.inl (97)), .inr (.inl (122))] h = some (1, h) := fun d h => by rw [md_isIn, if_pos c3]
              refine ⟨(k + 1, 1, V, .inl v), ⟨by dsimp only; omega, FV, V26, V25, Or.inl ⟨rfl, q2, hall.mpr ⟨q3, Or.inr (Or.inr c3)⟩⟩⟩, by dsimp only; omega, s1.trans ?_⟩
              (try dsimp only); rw [B_md_readsPattern_68]; (try simp (disch := omega) only [Option.bind_some, if_true, if_false, eq_self, not_true_eq_false, not_false_eq_true, am_w_id, if_pos, if_neg, fu_self, fu_ne, Int.toNat_natCast, m_s_25, ← hV, c1, c2, i4, e9, show ¬ (1 : Int) = 0 by decide]); rw [B_md_readsPattern_73]; (try simp (disch := omega) only [Option.bind_some, if_true, if_false, eq_self, not_true_eq_false, not_false_eq_true, am_w_id, if_pos, if_neg, fu_self, fu_ne, Int.toNat_natCast, m_s_25, ← hV, c1, c2, i4, e9, show ¬ (1 : Int) = 0 by decide]); rw [B_md_readsPattern_79]; (try simp (disch := omega) only [Option.bind_some, if_true, if_false, eq_self, not_true_eq_false, not_false_eq_true, am_w_id, if_pos, if_neg, fu_self, fu_ne, Int.toNat_natCast, m_s_25, ← hV, c1, c2, i4, e9, show ¬ (1 : Int) = 0 by decide]); rw [B_md_readsPattern_85]; (try simp (disch := omega) only [Option.bind_some, if_true, if_false, eq_self, not_true_eq_false, not_false_eq_true, am_w_id, if_pos, if_neg, fu_self, fu_ne, Int.toNat_natCast, m_s_25, ← hV, c1, c2, i4, e9, show ¬ (1 : Int) = 0 by decide]); rw [B_md_readsPattern_99]; (try simp (disch := omega) only [Option.bind_some, if_true, if_false, eq_self, not_true_eq_false, not_false_eq_true, am_w_id, if_pos, if_neg, fu_self, fu_ne, Int.toNat_natCast, m_s_25, ← hV, c1, c2, i4, e9, show ¬ (1 : Int) = 0 by decide]); rw [B_md_readsPattern_104]; (try simp (disch := omega) only [Option.bind_some, if_true, if_false, eq_self, not_true_eq_false, not_false_eq_true, am_w_id, if_pos, if_neg, fu_self, fu_ne, Int.toNat_natCast, m_s_25, ← hV, c1, c2, i4, e9, show ¬ (1 : Int) = 0 by decide])
            · have i4 : ∀ d h, am_cI d N_md_isIn [.inr (.inl (v)), .inr (.inl (97)), .inr (.inl (122))] h = some (0, h) := fun d h => by rw [md_isIn, if_neg c3]
              refine ⟨(k + 1, 0, V, .inl v), ⟨by dsimp only; omega, FV, V26, V25, Or.inr ⟨rfl, fun h => ?_⟩⟩, by dsimp only; omega, s1.trans ?_⟩
              · rcases (hall.mp h.2).2 with h | h | h
                · exact c1 h
                · exact c2 h
                · exact c3 h
              · (try dsimp only); rw [B_md_readsPattern_68]; (try simp (disch := omega) only [Option.bind_some, if_true, if_false, eq_self, not_true_eq_false, not_false_eq_true, am_w_id, if_pos, if_neg, fu_self, fu_ne, Int.toNat_natCast, m_s_25, ← hV, c1, c2, i4, e9, show ¬ (1 : Int) = 0 by decide]); rw [B_md_readsPattern_73]; (try simp (disch := omega) only [Option.bind_some, if_true, if_false, eq_self, not_true_eq_false, not_false_eq_true, am_w_id, if_pos, if_neg, fu_self, fu_ne, Int.toNat_natCast, m_s_25, ← hV, c1, c2, i4, e9, show ¬ (1 : Int) = 0 by decide]); rw [B_md_readsPattern_79]; (try simp (disch := omega) only [Option.bind_some, if_true, if_false, eq_self, not_true_eq_false, not_false_eq_true, am_w_id, if_pos, if_neg, fu_self, fu_ne, Int.toNat_natCast, m_s_25, ← hV, c1, c2, i4, e9, show ¬ (1 : Int) = 0 by decide]); rw [B_md_readsPattern_85]; (try simp (disch := omega) only [Option.bind_some, if_true, if_false, eq_self, not_true_eq_false, not_false_eq_true, am_w_id, if_pos, if_neg, fu_self, fu_ne, Int.toNat_natCast, m_s_25, ← hV, c1, c2, i4, e9, show ¬ (1 : Int) = 0 by decide]); rw [B_md_readsPattern_103]; (try simp (disch := omega) only [Option.bind_some, if_true, if_false, eq_self, not_true_eq_false, not_false_eq_true, am_w_id, if_pos, if_neg, fu_self, fu_ne, Int.toNat_natCast, m_s_25, ← hV, c1, c2, i4, e9, show ¬ (1 : Int) = 0 by decide]); rw [B_md_readsPattern_104]; (try simp (disch := omega) only [Option.bind_some, if_true, if_false, eq_self, not_true_eq_false, not_false_eq_true, am_w_id, if_pos, if_neg, fu_self, fu_ne, Int.toNat_natCast, m_s_25, ← hV, c1, c2, i4, e9, show ¬ (1 : Int) = 0 by decide])
      · subst q1
        refine ⟨(k + 1, 0, V, .inl v), ⟨by dsimp only; omega, FV, V26, V25, Or.inr ⟨rfl, fun h => q2 ⟨h.1, (hall.mp h.2).1⟩⟩⟩, by dsimp only; omega, s1.trans ?_⟩
        (try dsimp only); rw [B_md_readsPattern_68]; (try simp (disch := omega) only [Option.bind_some, if_true, if_false, eq_self, not_true_eq_false, not_false_eq_true, am_w_id, if_pos, if_neg, fu_self, fu_ne, Int.toNat_natCast, m_s_25, ← hV, e9]); rw [B_md_readsPattern_103]; (try simp (disch := omega) only [Option.bind_some, if_true, if_false, eq_self, not_true_eq_false, not_false_eq_true, am_w_id, if_pos, if_neg, fu_self, fu_ne, Int.toNat_natCast, m_s_25, ← hV, e9]); rw [B_md_readsPattern_104]; (try simp (disch := omega) only [Option.bind_some, if_true, if_false, eq_self, not_true_eq_false, not_false_eq_true, am_w_id, if_pos, if_neg, fu_self, fu_ne, Int.toNat_natCast, m_s_25, ← hV, e9])
  · dsimp only
    rcases hy3 with ⟨q1, q2⟩ | ⟨q1, q2⟩
    · exact Or.inl ⟨q1, q2, fun x hx => by simp at hx⟩
    · exact Or.inr ⟨q1, fun h => q2 h.1⟩
end MO
