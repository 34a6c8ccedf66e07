/-! what is made: the class -/
/-- an object is made behind the last cell, and its place is noted at A -/
theorem mk_ob {A p c e ci j : Nat} {h g : am_H} {F : List am_V} (h1 : h.1 = (p, c)) (hA : h.2 A = .inr (9, F)) (hlt : A < p) (hpe : p < e) (hj : j < F.length) (r3 : nfr p e (am_push h (.inr (ci, am_df ci))) g) :
    ∃ g', am_p g A 9 j (.inr (.inr (some (p)))) = some g' ∧ g'.1 = g.1 ∧ g'.2 A = .inr (9, F.set j (.inr (.inr (some (p))))) ∧ (∀ q, q ≠ A → g'.2 q = g.2 q) ∧ blw A p h g' ∧ (∀ q, (q < A ∨ e ≤ q) → g'.2 q = h.2 q) ∧ (A + 12 < p → g'.2 (A + 12) = h.2 (A + 12)) := by
  have n := (nfr.push (e := .inr (ci, am_df ci)) h1).wide (lo' := p) (hi' := e) (by omega) (by omega)
  have hg : g.2 A = .inr (9, F) := ((r3 A (by omega)).trans (n A (by omega))).trans hA
  have k : ∀ q, q ≠ A → (am_up g A (.inr (9, F.set j (.inr (.inr (some (p))))))).2 q = g.2 q := fun q hq => up_ne hq
  exact ⟨_, rd_p hg hj, rfl, up_self, k, fun q h1 _ h3 => ((k q (by omega)).trans (r3 q (by omega))).trans (n q (by omega)), fun q hq => ((k q (by omega)).trans (r3 q (by omega))).trans (n q (by omega)), fun hp => ((k _ (by omega)).trans (r3 _ (by omega))).trans (n _ (by omega))⟩
theorem mk_ar {A p c j : Nat} {h : am_H} {F : List am_V} {e : am_E} (h1 : h.1 = (p, c)) (hA : h.2 A = .inr (9, F)) (hlt : A < p) (hj : j < F.length) :
    ∃ g', am_p (am_push h e) A 9 j (.inr (.inr (some (p)))) = some g' ∧ g'.1 = (p + 1, c + am_sz e) ∧ g'.2 A = .inr (9, F.set j (.inr (.inr (some (p))))) ∧ g'.2 p = e ∧ ∀ q, q ≠ A → q ≠ p → g'.2 q = h.2 q := by
  obtain ⟨q1, q2⟩ := push_at (e := e) h1
  have n := nfr.push (e := e) h1
  exact ⟨_, rd_p ((n A (by omega)).trans hA) hj, q2, up_self, (up_ne (by omega)).trans q1, fun q z1 z2 => (up_ne z1).trans (n q (by omega))⟩
theorem mk_fl {A j : Nat} {h : am_H} {F : List am_V} {v : am_V} (hA : h.2 A = .inr (9, F)) (hj : j < F.length) :
    ∃ g', am_p h A 9 j v = some g' ∧ g'.1 = h.1 ∧ g'.2 A = .inr (9, F.set j v) ∧ ∀ q, q ≠ A → g'.2 q = h.2 q := ⟨_, rd_p hA hj, rfl, up_self, fun q hq => up_ne hq⟩
section INI
variable {h : am_H} {A c : Nat}
set_option maxHeartbeats 4000000 in
theorem i_nw (ho : h.2 A = .inr (9, am_df 9)) (h1 : h.1 = (A + 1, c)) (d : Nat) : ∃ h' c', am_cV (d + 3) N_nw_init [.inr (.inr (some (A)))] h = some h' ∧ h'.1 = (A + 144, c') ∧ c' ≤ c + 60000 ∧ (∀ q, (q < A ∨ A + 144 ≤ q) → h'.2 q = h.2 q) ∧ CR h' h' A ([], [], [], [], fun _ => none) := by
  have a0 := ho
  have m0 : h.1 = (A + 1, c) := h1
  obtain ⟨s0, es0⟩ : ∃ s0 : am_H, s0 = h := ⟨_, rfl⟩
  rw [← es0] at a0 m0
  have pp1 : s0.1.1 = A + 1 := by rw [m0]
  obtain ⟨q1, w1⟩ := push_at (e := .inr (7, am_df 7)) m0
  obtain ⟨g1, i1, x1, y1, z1⟩ := i_tp q1 w1 (d + 2)
  obtain ⟨s1, e1, v1, a1, u1, b1, o1, t1⟩ := mk_ob (j := 0) (e := A + 3) m0 a0 (by omega) (by omega) (Nat.le_of_ble_eq_true rfl) y1
  obtain ⟨y1c, m1, l1⟩ : ∃ x, s1.1 = (A + 3, x) ∧ x ≤ c + (2 + 400) := ⟨_, v1.trans x1, by show c + 2 + 400 ≤ _; omega⟩
  clear x1 w1 v1
  have pp2 : s1.1.1 = A + 3 := by rw [m1]
  obtain ⟨q2, w2⟩ := push_at (e := .inr (0, am_df 0)) m1
  obtain ⟨g2, i2, x2, y2, z2⟩ := i_bk q2 w2 (d + 2)
  obtain ⟨s2, e2, v2, a2, u2, b2, o2, t2⟩ := mk_ob (j := 1) (e := A + 6) m1 a1 (by omega) (by omega) (Nat.le_of_ble_eq_true rfl) y2
  obtain ⟨y2c, m2, l2⟩ : ∃ x, s2.1 = (A + 6, x) ∧ x ≤ y1c + (3 + 200) := ⟨_, v2.trans x2, by show y1c + 3 + 200 ≤ _; omega⟩
  clear x2 w2 v2
  have pp3 : s2.1.1 = A + 6 := by rw [m2]
  obtain ⟨q3, w3⟩ := push_at (e := .inr (0, am_df 0)) m2
  obtain ⟨g3, i3, x3, y3, z3⟩ := i_bk q3 w3 (d + 2)
  obtain ⟨s3, e3, v3, a3, u3, b3, o3, t3⟩ := mk_ob (j := 2) (e := A + 9) m2 a2 (by omega) (by omega) (Nat.le_of_ble_eq_true rfl) y3
  obtain ⟨y3c, m3, l3⟩ : ∃ x, s3.1 = (A + 9, x) ∧ x ≤ y2c + (3 + 200) := ⟨_, v3.trans x3, by show y2c + 3 + 200 ≤ _; omega⟩
  clear x3 w3 v3
  have pp4 : s3.1.1 = A + 9 := by rw [m3]
  obtain ⟨q4, w4⟩ := push_at (e := .inr (0, am_df 0)) m3
  obtain ⟨g4, i4, x4, y4, z4⟩ := i_bk q4 w4 (d + 2)
  obtain ⟨s4, e4, v4, a4, u4, b4, o4, t4⟩ := mk_ob (j := 3) (e := A + 12) m3 a3 (by omega) (by omega) (Nat.le_of_ble_eq_true rfl) y4
  obtain ⟨y4c, m4, l4⟩ : ∃ x, s4.1 = (A + 12, x) ∧ x ≤ y3c + (3 + 200) := ⟨_, v4.trans x4, by show y3c + 3 + 200 ≤ _; omega⟩
  clear x4 w4 v4
  have pp5 : s4.1.1 = A + 12 := by rw [m4]
  obtain ⟨s5, e5, m5a, a5, sh5, v5⟩ := mk_ar (e := am_na 4 (Int.toNat 3)) (j := 4) m4 a4 (by omega) (Nat.le_of_ble_eq_true rfl)
  obtain ⟨y5c, m5, l5⟩ : ∃ x, s5.1 = (A + 13, x) ∧ x ≤ y4c + 3 := ⟨_, m5a, by show y4c + 3 ≤ _; omega⟩
  clear m5a
  have b5 : blw A (A + 12) s4 s5 := fun q z1 z2 z3 => v5 q (by omega) (by omega)
  have o5 : ∀ q, (q < A ∨ A + 13 ≤ q) → s5.2 q = s4.2 q := fun q z => v5 q (by omega) (by omega)
  have pp6 : s5.1.1 = A + 13 := by rw [m5]
  obtain ⟨q6, w6⟩ := push_at (e := .inr (2, am_df 2)) m5
  obtain ⟨g6, i6, x6, y6, z6⟩ := i_hi q6 w6 (d + 1)
  obtain ⟨s6, e6, v6, a6, u6, b6, o6, t6⟩ := mk_ob (j := 5) (e := A + 88) m5 a5 (by omega) (by omega) (Nat.le_of_ble_eq_true rfl) y6
  obtain ⟨y6c, m6, l6⟩ : ∃ x, s6.1 = (A + 88, x) ∧ x ≤ y5c + (4 + 4896) := ⟨_, v6.trans x6, by show y5c + 4 + 4896 ≤ _; omega⟩
  clear x6 w6 v6
  have pp7 : s6.1.1 = A + 88 := by rw [m6]
  obtain ⟨q7, w7⟩ := push_at (e := .inr (4, am_df 4)) m6
  obtain ⟨g7, i7, x7, y7, z7⟩ := i_lr (A + 1) q7 w7 (d + 1)
  obtain ⟨s7, e7, v7, a7, u7, b7, o7, t7⟩ := mk_ob (j := 6) (e := A + 92) m6 a6 (by omega) (by omega) (Nat.le_of_ble_eq_true rfl) y7
  obtain ⟨y7c, m7, l7⟩ : ∃ x, s7.1 = (A + 92, x) ∧ x ≤ y6c + (4 + 203) := ⟨_, v7.trans x7, by show y6c + 4 + 203 ≤ _; omega⟩
  clear x7 w7 v7
  have pp8 : s7.1.1 = A + 92 := by rw [m7]
  obtain ⟨q8, w8⟩ := push_at (e := .inr (5, am_df 5)) m7
  obtain ⟨g8, i8, x8, y8, z8⟩ := i_ma q8 w8 (d + 2)
  obtain ⟨s8, e8, v8, a8, u8, b8, o8, t8⟩ := mk_ob (j := 7) (e := A + 107) m7 a7 (by omega) (by omega) (Nat.le_of_ble_eq_true rfl) y8
  obtain ⟨y8c, m8, l8⟩ : ∃ x, s8.1 = (A + 107, x) ∧ x ≤ y7c + (17 + 13048) := ⟨_, v8.trans x8, by show y7c + 17 + 13048 ≤ _; omega⟩
  clear x8 w8 v8
  have pp9 : s8.1.1 = A + 107 := by rw [m8]
  obtain ⟨q9, w9⟩ := push_at (e := .inr (5, am_df 5)) m8
  obtain ⟨g9, i9, x9, y9, z9⟩ := i_ma q9 w9 (d + 2)
  obtain ⟨s9, e9, v9, a9, u9, b9, o9, t9⟩ := mk_ob (j := 8) (e := A + 122) m8 a8 (by omega) (by omega) (Nat.le_of_ble_eq_true rfl) y9
  obtain ⟨y9c, m9, l9⟩ : ∃ x, s9.1 = (A + 122, x) ∧ x ≤ y8c + (17 + 13048) := ⟨_, v9.trans x9, by show y8c + 17 + 13048 ≤ _; omega⟩
  clear x9 w9 v9
  have pp10 : s9.1.1 = A + 122 := by rw [m9]
  obtain ⟨q10, w10⟩ := push_at (e := .inr (6, am_df 6)) m9
  obtain ⟨g10, i10, x10, y10, z10⟩ := i_pa q10 w10 (d + 2)
  obtain ⟨s10, e10, v10, a10, u10, b10, o10, t10⟩ := mk_ob (j := 9) (e := A + 124) m9 a9 (by omega) (by omega) (Nat.le_of_ble_eq_true rfl) y10
  obtain ⟨y10c, m10, l10⟩ : ∃ x, s10.1 = (A + 124, x) ∧ x ≤ y9c + (3 + 400) := ⟨_, v10.trans x10, by show y9c + 3 + 400 ≤ _; omega⟩
  clear x10 w10 v10
  have pp11 : s10.1.1 = A + 124 := by rw [m10]
  obtain ⟨q11, w11⟩ := push_at (e := .inr (8, am_df 8)) m10
  obtain ⟨g11, i11, x11, y11, z11⟩ := i_un (A + 1) q11 w11 (d + 2)
  obtain ⟨s11, e11, v11, a11, u11, b11, o11, t11⟩ := mk_ob (j := 10) (e := A + 130) m10 a10 (by omega) (by omega) (Nat.le_of_ble_eq_true rfl) y11
  obtain ⟨y11c, m11, l11⟩ : ∃ x, s11.1 = (A + 130, x) ∧ x ≤ y10c + (12 + 3203) := ⟨_, v11.trans x11, by show y10c + 12 + 3203 ≤ _; omega⟩
  clear x11 w11 v11
  have pp12 : s11.1.1 = A + 130 := by rw [m11]
  obtain ⟨q12, w12⟩ := push_at (e := .inr (1, am_df 1)) m11
  obtain ⟨g12, i12, x12, y12, z12⟩ := i_cu (A + 1) (A + 3) q12 w12 (d + 2)
  obtain ⟨s12, e12, v12, a12, u12, b12, o12, t12⟩ := mk_ob (j := 11) (e := A + 132) m11 a11 (by omega) (by omega) (Nat.le_of_ble_eq_true rfl) y12
  obtain ⟨y12c, m12, l12⟩ : ∃ x, s12.1 = (A + 132, x) ∧ x ≤ y11c + (3 + 61) := ⟨_, v12.trans x12, by show y11c + 3 + 61 ≤ _; omega⟩
  clear x12 w12 v12
  have pp13 : s12.1.1 = A + 132 := by rw [m12]
  obtain ⟨q13, w13⟩ := push_at (e := .inr (3, am_df 3)) m12
  obtain ⟨g13, i13, x13, y13, z13⟩ := i_li (A + 1) q13 w13 (d + 2)
  obtain ⟨s13, e13, v13, a13, u13, b13, o13, t13⟩ := mk_ob (j := 12) (e := A + 135) m12 a12 (by omega) (by omega) (Nat.le_of_ble_eq_true rfl) y13
  obtain ⟨y13c, m13, l13⟩ : ∃ x, s13.1 = (A + 135, x) ∧ x ≤ y12c + (3 + 111) := ⟨_, v13.trans x13, by show y12c + 3 + 111 ≤ _; omega⟩
  clear x13 w13 v13
  -- the two flags
  obtain ⟨s14, e14, m14, a14, u14⟩ := mk_fl (j := 14) (v := .inl (1)) a13 (Nat.le_of_ble_eq_true rfl)
  obtain ⟨t0, e15, m15, c0', u15⟩ := mk_fl (j := 15) (v := .inl (1)) a14 (Nat.le_of_ble_eq_true rfl)
  have c0 : t0.2 A = nwO A 0 1 1 := c0'
  have n0 := m15.trans (m14.trans m13)
  have u0 : ∀ q, q ≠ A → t0.2 q = s13.2 q := fun q hq => (u15 q hq).trans (u14 q hq)
  have f0 : t0.2 (A + 12) = .inl (4, 3, .inr (.inr (fun _ => none))) := by
    rw [u0 _ (by omega), t13 (by omega), t12 (by omega), t11 (by omega), t10 (by omega), t9 (by omega), t8 (by omega), t7 (by omega), t6 (by omega), sh5]
    rfl
  obtain ⟨h', ef, nf, of, ⟨ff, hf1, hf2⟩, bf⟩ := i_sh c0 n0 f0 (d + 2)
  have gr7a : am_gR (am_push s6 (.inr (4, am_df 4))) A 9 0 = some (A + 1) := rd_gR ((nfr.push m6 A (by omega)).trans a6) rfl
  have gr11a : am_gR (am_push s10 (.inr (8, am_df 8))) A 9 0 = some (A + 1) := rd_gR ((nfr.push m10 A (by omega)).trans a10) rfl
  have gr12a : am_gR (am_push s11 (.inr (1, am_df 1))) A 9 0 = some (A + 1) := rd_gR ((nfr.push m11 A (by omega)).trans a11) rfl
  have gr12b : am_gR (am_push s11 (.inr (1, am_df 1))) A 9 1 = some (A + 3) := rd_gR ((nfr.push m11 A (by omega)).trans a11) rfl
  have gr13a : am_gR (am_push s12 (.inr (3, am_df 3))) A 9 0 = some (A + 1) := rd_gR ((nfr.push m12 A (by omega)).trans a12) rfl
  have run : am_call (d + 3) N_nw_init [.inr (.inr (some (A)))] s0 = EV (d + 3) N_nw_init T_nw_init_176 [.inr (.inr (some (A))), .inl (0)] [] t0 := by
    rw [en_nw_init, B_nw_init_0, pp1, i1, Option.bind_some, e1, Option.bind_some, pp2, i2, Option.bind_some, e2, Option.bind_some, pp3, i3, Option.bind_some, e3, Option.bind_some, pp4, i4, Option.bind_some, e4, Option.bind_some, pp5, e5, Option.bind_some, pp6, i6, Option.bind_some, e6, Option.bind_some, gr7a, Option.bind_some, pp7, i7, Option.bind_some, e7, Option.bind_some, pp8, i8, Option.bind_some, e8, Option.bind_some, pp9, i9, Option.bind_some, e9, Option.bind_some, pp10, i10, Option.bind_some, e10, Option.bind_some, gr11a, Option.bind_some, pp11, i11, Option.bind_some, e11, Option.bind_some, gr12a, Option.bind_some, gr12b, Option.bind_some, pp12, i12, Option.bind_some, e12, Option.bind_some, gr13a, Option.bind_some, pp13, i13, Option.bind_some, e13, Option.bind_some, e14, Option.bind_some, e15, Option.bind_some]
  obtain ⟨cf, nf, bd⟩ : ∃ x, h'.1 = (A + 144, x) ∧ x ≤ c + 60000 := ⟨_, nf, by omega⟩
  clear n0 m15 m14 pp1 m1 l1 pp2 m2 l2 pp3 m3 l3 pp4 m4 l4 pp5 m5 l5 pp6 m6 l6 pp7 m7 l7 pp8 m8 l8 pp9 m9 l9 pp10 m10 l10 pp11 m11 l11 pp12 m12 l12 pp13 m13 l13 m0
  -- what lies below stays
  have Bf : blw A (A + 135) s13 h' := fun q z1 z2 z3 => (of q z2 (by omega)).trans (u0 q (by omega))
  have B12 : blw A (A + 132) s12 h' := b13.tr Bf (by omega)
  have B11 : blw A (A + 130) s11 h' := b12.tr B12 (by omega)
  have B10 : blw A (A + 124) s10 h' := b11.tr B11 (by omega)
  have B9 : blw A (A + 122) s9 h' := b10.tr B10 (by omega)
  have B8 : blw A (A + 107) s8 h' := b9.tr B9 (by omega)
  have B7 : blw A (A + 92) s7 h' := b8.tr B8 (by omega)
  have B6 : blw A (A + 88) s6 h' := b7.tr B7 (by omega)
  have B5 : blw A (A + 13) s5 h' := b6.tr B6 (by omega)
  have B4 : blw A (A + 12) s4 h' := b5.tr B5 (by omega)
  have B3 : blw A (A + 9) s3 h' := b4.tr B4 (by omega)
  have B2 : blw A (A + 6) s2 h' := b3.tr B3 (by omega)
  have B1 : blw A (A + 3) s1 h' := b2.tr B2 (by omega)
  have fA : h'.2 A = nwO A 0 1 1 := (of A (by omega) (by omega)).trans c0
  have out : ∀ q, (q < A ∨ A + 144 ≤ q) → h'.2 q = s0.2 q := fun q hq => (of q (by omega) (by omega)).trans ((u0 q (by omega)).trans ((o13 q (by omega)).trans ((o12 q (by omega)).trans ((o11 q (by omega)).trans ((o10 q (by omega)).trans ((o9 q (by omega)).trans ((o8 q (by omega)).trans ((o7 q (by omega)).trans ((o6 q (by omega)).trans ((o5 q (by omega)).trans ((o4 q (by omega)).trans ((o3 q (by omega)).trans ((o2 q (by omega)).trans (o1 q (by omega)))))))))))))))
  rw [es0] at run out
  refine ⟨h', _, am_cV_of (run.trans ef), nf, bd, out, am_fr.rf, 0, 1, 1, ⟨fA, ?_, ?_, ?_, ?_, ⟨ff, hf1, hf2⟩, ?_⟩, ⟨0, ⟨rfl, by decide⟩, fun k hk => ⟨(bf k hk).w, ?_, fun v hv => by simp at hv⟩⟩, ⟨⟨S0, ?_⟩, ?_⟩, ⟨S0, ?_, fun e => absurd e (by decide)⟩, ⟨S0, ?_, fun e => absurd e (by decide)⟩, ⟨S0, ?_⟩, ⟨S0, ?_, rfl⟩, ⟨S0, ?_⟩, S0, ?_⟩
  · exact tp_bl z1 (blw.tr (P := A + 3) (fun q z1 _ _ => u1 q (by omega)) B1 (by omega)) (by omega) (by omega) (by omega)
  · exact bk_bl z2 (blw.tr (P := A + 6) (fun q z1 _ _ => u2 q (by omega)) B2 (by omega)) (by omega) (by omega) (by omega)
  · exact bk_bl z3 (blw.tr (P := A + 9) (fun q z1 _ _ => u3 q (by omega)) B3 (by omega)) (by omega) (by omega) (by omega)
  · exact (bk_bl z4 (blw.tr (P := A + 12) (fun q z1 _ _ => u4 q (by omega)) B4 (by omega)) (by omega) (by omega) (by omega)).w
  · exact hi_bl z6 (blw.tr (P := A + 88) (fun q z1 _ _ => u6 q (by omega)) B6 (by omega)) (by omega)
  · show 0 / 2 ^ k % 2 = if (none : Option (List wd)) = none then 0 else 1
    rw [if_pos rfl, Nat.zero_div]
  · exact xH_bl z7.1 (blw.tr (P := A + 92) (fun q z1 _ _ => u7 q (by omega)) B7 (by omega)) (by omega) (by show A + 88 + 1 ≤ A + 92; omega)
  · exact (bk_bl z7.2 (blw.tr (P := A + 92) (fun q z1 _ _ => u7 q (by omega)) B7 (by omega)) (by omega) (by omega) (by omega)).w
  · exact xH_bl z8 (blw.tr (P := A + 107) (fun q z1 _ _ => u8 q (by omega)) B8 (by omega)) (by omega) (by show A + 92 + 15 ≤ A + 107; omega)
  · exact xH_bl z9 (blw.tr (P := A + 122) (fun q z1 _ _ => u9 q (by omega)) B9 (by omega)) (by omega) (by show A + 107 + 15 ≤ A + 122; omega)
  · exact xH_bl z10 (blw.tr (P := A + 124) (fun q z1 _ _ => u10 q (by omega)) B10 (by omega)) (by omega) (by show A + 122 + 2 ≤ A + 124; omega)
  · exact xH_bl z11 (blw.tr (P := A + 130) (fun q z1 _ _ => u11 q (by omega)) B11 (by omega)) (by omega) (by show A + 124 + 6 ≤ A + 130; omega)
  · exact xH_bl z12 (blw.tr (P := A + 132) (fun q z1 _ _ => u12 q (by omega)) B12 (by omega)) (by omega) (by show A + 130 + 2 ≤ A + 132; omega)
  · exact xH_bl z13 (blw.tr (P := A + 135) (fun q z1 _ _ => u13 q (by omega)) Bf (by omega)) (by omega) (by show A + 132 + 3 ≤ A + 135; omega)
end INI
