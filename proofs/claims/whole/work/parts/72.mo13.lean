/-! unpack: how bytes are read -/
/-- a number from a place on: at most n more bytes, its value so far -/
def rdV (t : List Int) (a0 : Nat) : Nat → Nat → Int → Int ⊕ (Nat × Int)
  | 0, _, _ => .inl (8 * (a0 : Int) + 2)
  | n + 1, a, v => if t.length ≤ a then .inl (8 * (t.length : Int) + 1) else if t.getD a 0 ≤ 127 then .inr (a + 1, v + t.getD a 0 * 128 ^ (3 - n)) else rdV t a0 n (a + 1) (v + (t.getD a 0 - 128) * 128 ^ (3 - n))
def rdN (t : List Int) (a : Nat) (lo hi : Int) : Int ⊕ (Nat × Int) := match rdV t a 4 a 0 with
  | .inl f => .inl f
  | .inr (b, v) => if lo ≤ v ∧ v ≤ hi then .inr (b, v) else .inl (8 * (a : Int) + 2)
abbrev arc : Type := Int × (Int × Int)
abbrev sta : Type := Int × List arc
/-- n arcs from a place on, behind a letter -/
def rdA (t : List Int) (q : Int) : Nat → Nat → Int → Int ⊕ (Nat × List arc)
  | 0, a, _ => .inr (a, [])
  | n + 1, a, l => match rdN t a (l + 1) 26 with
    | .inl f => .inl f
    | .inr (b, x) => match rdN t b 0 999999 with
      | .inl f => .inl f
      | .inr (c, o) => match rdN t c 0 (q - 1) with
        | .inl f => .inl f
        | .inr (e, z) => match rdA t q n e x with
          | .inl f => .inl f
          | .inr (g, as) => .inr (g, (x, (o, z)) :: as)
def rdS (t : List Int) (q : Int) (a : Nat) : Int ⊕ (Nat × sta) := match rdN t a 0 53 with
  | .inl f => .inl f
  | .inr (b, v) => if v % 2 = 1 then (match rdN t b 0 999999 with
      | .inl f => .inl f
      | .inr (c, e) => match rdA t q (v / 2).toNat c 0 with
        | .inl f => .inl f
        | .inr (g, as) => .inr (g, (e, as)))
    else (match rdA t q (v / 2).toNat b 0 with
      | .inl f => .inl f
      | .inr (g, as) => .inr (g, (-2, as)))
def rdSs (t : List Int) (q : Int) : Nat → Nat → Int ⊕ (Nat × List sta)
  | 0, a => .inr (a, [])
  | n + 1, a => match rdS t q a with
    | .inl f => .inl f
    | .inr (b, s) => match rdSs t q n b with
      | .inl f => .inl f
      | .inr (c, ss) => .inr (c, s :: ss)
/-- all bytes: the least number and the states -/
def rdB (t : List Int) : Int ⊕ (Int × List sta) := match rdN t 0 1 1001 with
  | .inl f => .inl f
  | .inr (a, q) => match rdN t a 0 999999 with
    | .inl f => .inl f
    | .inr (b, u) => match rdSs t q q.toNat b with
      | .inl f => .inl f
      | .inr (c, ss) => if c = t.length then .inr (u, ss) else .inl (8 * (c : Int) + 3)
theorem p128 {n k : Nat} (h : n + 1 + k = 4) : (128 : Int) ^ (3 - n) = 128 ^ k := by rw [show 3 - n = k by omega]
theorem rdV_ok {t : List Int} {a0 : Nat} : ∀ {n a : Nat} {v : Int} {b : Nat} {u : Int}, rdV t a0 n a v = .inr (b, u) → a < b ∧ b ≤ t.length
  | 0, a, v, b, u, h => by simp [rdV] at h
  | n + 1, a, v, b, u, h => by
    unfold rdV at h
    split at h; · simp at h
    next c =>
    split at h
    · injection h with h; injection h with h1 h2; omega
    · have := rdV_ok h; omega
theorem rdN_ok {t : List Int} {a b : Nat} {lo hi v : Int} (h : rdN t a lo hi = .inr (b, v)) : (a < b ∧ b ≤ t.length) ∧ lo ≤ v ∧ v ≤ hi := by
  unfold rdN at h
  split at h; · simp at h
  next b' v' e =>
  split at h
  · next c =>
    injection h with h; injection h with h1 h2
    subst h1 h2
    exact ⟨rdV_ok e, c⟩
  · simp at h
theorem or_put {v b : Int} {k : Nat} (hk : k < 4) (h0 : 0 ≤ v) (h1 : v < 128 ^ k) (b0 : 0 ≤ b) (b1 : b < 128) : am_or v (am_shl b (7 * (k : Int))) = v + b * 128 ^ k ∧ 0 ≤ v + b * 128 ^ k ∧ v + b * 128 ^ k < 128 ^ (k + 1) := by
  have key : ∀ (C n : Nat), C = 2 ^ n → (C : Int) = 128 ^ k → n < 31 → (n : Int) = 7 * (k : Int) → C ≤ 2097152 → am_or v (am_shl b (7 * (k : Int))) = v + b * 128 ^ k := by
    intro C n hC hC2 hn hn2 hC3
    rw [← hC2] at h1 ⊢
    have hbC : b * (C : Int) ≤ 127 * (C : Int) := Int.mul_le_mul_of_nonneg_right (by omega) (by omega)
    have hbC0 : 0 ≤ b * (C : Int) := Int.mul_nonneg b0 (by omega)
    have e1 : (2 : Int) ^ (n : Int).toNat = (C : Int) := by rw [Int.toNat_natCast, hC]; push_cast; rfl
    rw [← hn2, bt_shl b0 (by omega) (by omega) (by rw [e1]; omega), e1, bt_or h0 (by omega) hbC0 (by omega)]
    have e2 : (b * (C : Int)).toNat = 2 ^ n * b.toNat := by
      obtain ⟨w, rfl⟩ := Int.eq_ofNat_of_zero_le b0
      rw [← Int.natCast_mul, Int.toNat_natCast, Int.toNat_natCast, Nat.mul_comm, hC]
    rw [Nat.or_comm, e2, ← Nat.two_pow_add_eq_or_of_lt (by omega : v.toNat < 2 ^ n)]
    rw [← e2]
    omega
  have hk' : k = 0 ∨ k = 1 ∨ k = 2 ∨ k = 3 := by omega
  refine ⟨?_, ?_⟩
  · rcases hk' with h | h | h | h <;> subst h
    · exact key 1 0 rfl rfl (by omega) (by omega) (by omega)
    · exact key 128 7 rfl rfl (by omega) (by omega) (by omega)
    · exact key 16384 14 rfl rfl (by omega) (by omega) (by omega)
    · exact key 2097152 21 rfl rfl (by omega) (by omega) (by omega)
  · rcases hk' with h | h | h | h <;> subst h
    · have e : (128 : Int) ^ 0 = 1 := rfl
      have e' : (128 : Int) ^ (0 + 1) = 128 := rfl
      omega
    · have e : (128 : Int) ^ 1 = 128 := rfl
      have e' : (128 : Int) ^ (1 + 1) = 16384 := rfl
      omega
    · have e : (128 : Int) ^ 2 = 16384 := rfl
      have e' : (128 : Int) ^ (2 + 1) = 2097152 := rfl
      omega
    · have e : (128 : Int) ^ 3 = 2097152 := rfl
      have e' : (128 : Int) ^ (3 + 1) = 268435456 := rfl
      omega
section MO
variable {m : Nat} {g : am_H} {S : Nat → Nat → Int} {t : List Int}
def nuR (r : Int ⊕ (Nat × Int)) (x : Int) (S' : Nat → Nat → Int) : Prop := (∃ f, r = .inl f ∧ x = 0 ∧ S' 10 0 = f) ∨ ∃ b v, r = .inr (b, v) ∧ x = 1 ∧ S' 9 0 = ((b : Nat) : Int) ∧ S' 33 0 = v
theorem md_rdLoop (lo hi : Int) (a0 : Nat) (ha0 : a0 ≤ 400) (d : Nat) : ∀ (n k a : Nat) (v : Int) (j : am_V) (S : Nat → Nat → Int), n + k = 4 → taR S t → S 9 0 = (a : Int) → a ≤ t.length → S 33 0 = v → 0 ≤ v → v < 128 ^ k → S 34 0 = (a0 : Int) →
    (∃ f S', rdV t a0 n a v = .inl f ∧ EV (d + 1) N_md_readsNumber T_md_readsNumber_18 [.inr (.inr (some (m))), .inl (lo), .inl (hi), .inl (1), .inl ((k : Int)), j] [] (MH m g S) = some (some (.inl 0), MH m g S') ∧ S' 10 0 = f ∧ fd [9, 10, 33, 34] S S') ∨
    ∃ b u k' j' S', rdV t a0 n a v = .inr (b, u) ∧ EV (d + 1) N_md_readsNumber T_md_readsNumber_18 [.inr (.inr (some (m))), .inl (lo), .inl (hi), .inl (1), .inl ((k : Int)), j] [] (MH m g S) = EV (d + 1) N_md_readsNumber T_md_readsNumber_118 [.inr (.inr (some (m))), .inl (lo), .inl (hi), .inl (0), .inl (k'), j'] [] (MH m g S') ∧ S' 9 0 = ((b : Nat) : Int) ∧ S' 33 0 = u ∧ S' 34 0 = (a0 : Int) ∧ fd [9, 10, 33, 34] S S' := by
  intro n
  induction n with
  | zero =>
    intro k a v j S hn T h9 ha h33 hv hv1 h34
    obtain rfl : k = 4 := by omega
    left
    have hf := fun d => md_fails (m := m) (g := g) (S := S) 2 (a0 : Int) (by omega) (by omega) d
    refine ⟨_, am_fu S 10 (fun _ => 8 * (a0 : Int) + 2), rfl, ?_, congrFun fu_self 0, fd.rf.up (by decide) _⟩
    (try dsimp only); rw [B_md_readsNumber_18]; (try simp (disch := omega) only [Option.bind_some, if_true, if_false, eq_self, not_true_eq_false, not_false_eq_true, am_w_id, if_pos, if_neg, fu_self, fu_ne, Int.toNat_natCast, h34, hf, show ¬ (1 : Int) = 0 by decide, show ((4 : Nat) : Int) = 4 from rfl]); rw [B_md_readsNumber_22]; (try simp (disch := omega) only [Option.bind_some, if_true, if_false, eq_self, not_true_eq_false, not_false_eq_true, am_w_id, if_pos, if_neg, fu_self, fu_ne, Int.toNat_natCast, h34, hf, show ¬ (1 : Int) = 0 by decide, show ((4 : Nat) : Int) = 4 from rfl]); rw [B_md_readsNumber_28]; (try simp (disch := omega) only [Option.bind_some, if_true, if_false, eq_self, not_true_eq_false, not_false_eq_true, am_w_id, if_pos, if_neg, fu_self, fu_ne, Int.toNat_natCast, m_gI_34, m_p_34, m_O, h34, hf, show ¬ (1 : Int) = 0 by decide, show ((4 : Nat) : Int) = 4 from rfl])
  | succ n ih =>
    intro k a v j S hn T h9 ha h33 hv hv1 h34
    have hT := T.2.1
    have k4 : ¬ (k : Int) = 4 := by omega
    by_cases c : t.length ≤ a
    · left
      have hf := fun d => md_fails (m := m) (g := g) (S := S) 1 (t.length : Int) (by omega) (by omega) d
      have h1 := T.1
      have ea : (a : Int) = (t.length : Int) := by omega
      rw [ea] at h9
      refine ⟨8 * (t.length : Int) + 1, am_fu S 10 (fun _ => 8 * (t.length : Int) + 1), by rw [rdV, if_pos c], ?_, congrFun fu_self 0, fd.rf.up (by decide) _⟩
      (try dsimp only); rw [B_md_readsNumber_18]; (try simp (disch := omega) only [Option.bind_some, if_true, if_false, eq_self, not_true_eq_false, not_false_eq_true, am_w_id, if_pos, if_neg, fu_self, fu_ne, Int.toNat_natCast, h1, h9, hf, k4, show ¬ (1 : Int) = 0 by decide]); rw [B_md_readsNumber_22]; (try simp (disch := omega) only [Option.bind_some, if_true, if_false, eq_self, not_true_eq_false, not_false_eq_true, am_w_id, if_pos, if_neg, fu_self, fu_ne, Int.toNat_natCast, h1, h9, hf, k4, show ¬ (1 : Int) = 0 by decide]); rw [B_md_readsNumber_38]; (try simp (disch := omega) only [Option.bind_some, if_true, if_false, eq_self, not_true_eq_false, not_false_eq_true, am_w_id, if_pos, if_neg, fu_self, fu_ne, Int.toNat_natCast, m_gI_9, m_p_9, m_gI_1, m_p_1, h1, h9, hf, k4, show ¬ (1 : Int) = 0 by decide]); rw [B_md_readsNumber_49]; (try simp (disch := omega) only [Option.bind_some, if_true, if_false, eq_self, not_true_eq_false, not_false_eq_true, am_w_id, if_pos, if_neg, fu_self, fu_ne, Int.toNat_natCast, m_gI_1, m_p_1, m_O, h1, h9, hf, k4, show ¬ (1 : Int) = 0 by decide])
    · have hb := by_get T.2.2.1 (show a < t.length by omega)
      have h1 := T.1
      have na : ¬ (a : Int) = (t.length : Int) := by omega
      have hby := fun d => md_byteAt (m := m) (g := g) T (k := (a : Int)) (by omega) d
      rw [tb_get (by omega)] at hby
      have e9 : (a : Int) + 1 = ((a + 1 : Nat) : Int) := by omega
      have e8 : (k : Int) + 1 = ((k + 1 : Nat) : Int) := by omega
      have hm : am_and (t.getD a 0) 127 = t.getD a 0 % 128 := bt_mask (x := t.getD a 0) (by unfold am_inI; omega) 7 (by omega)
      obtain ⟨o1, o2, o3⟩ := or_put (v := v) (b := t.getD a 0 % 128) (k := k) (by omega) hv hv1 (by omega) (by omega)
      generalize hw : v + t.getD a 0 % 128 * 128 ^ k = w at *
      obtain ⟨U, hU⟩ : ∃ U, U = am_fu (am_fu S 9 (fun _ => ((a + 1 : Nat) : Int))) 33 (fun _ => w) := ⟨_, rfl⟩
      have FU : fd [9, 10, 33, 34] S U := by rw [hU]; exact (fd.rf.up (by decide) _).up (by decide) _
      have u9 : U 9 0 = ((a + 1 : Nat) : Int) := by rw [hU, fu_ne (by decide), fu_self]
      have u33 : U 33 0 = w := by rw [hU, fu_self]
      have u34 : U 34 0 = (a0 : Int) := by rw [hU, fu_ne (by decide), fu_ne (by decide)]; exact h34
      have TU : taR U t := by unfold taR; rw [FU 0 (by decide), FU 1 (by decide)]; exact T
      have hUs : am_fu (am_fu S 9 (fun _ => ((a + 1 : Nat) : Int))) 33 (fun _ => w) = U := hU.symm
      by_cases c2 : t.getD a 0 ≤ 127
      · right
        have hr : rdV t a0 (n + 1) a v = .inr (a + 1, w) := by
          rw [rdV, if_neg c, if_pos c2, p128 hn, ← hw, show t.getD a 0 % 128 = t.getD a 0 by omega]
        refine ⟨a + 1, w, ((k + 1 : Nat) : Int), .inl (t.getD a 0), U, hr, ?_, u9, u33, u34, FU⟩
        (try dsimp only); rw [B_md_readsNumber_18]; (try simp (disch := omega) only [Option.bind_some, if_true, if_false, eq_self, not_true_eq_false, not_false_eq_true, am_w_id, if_pos, if_neg, fu_self, fu_ne, Int.toNat_natCast, h1, h9, na, k4, hby, h33, hm, o1, e9, e8, c2, hUs, show ¬ (1 : Int) = 0 by decide]); rw [B_md_readsNumber_22]; (try simp (disch := omega) only [Option.bind_some, if_true, if_false, eq_self, not_true_eq_false, not_false_eq_true, am_w_id, if_pos, if_neg, fu_self, fu_ne, Int.toNat_natCast, h1, h9, na, k4, hby, h33, hm, o1, e9, e8, c2, hUs, show ¬ (1 : Int) = 0 by decide]); rw [B_md_readsNumber_38]; (try simp (disch := omega) only [Option.bind_some, if_true, if_false, eq_self, not_true_eq_false, not_false_eq_true, am_w_id, if_pos, if_neg, fu_self, fu_ne, Int.toNat_natCast, m_gI_9, m_p_9, m_gI_1, m_p_1, h1, h9, na, k4, hby, h33, hm, o1, e9, e8, c2, hUs, show ¬ (1 : Int) = 0 by decide]); rw [B_md_readsNumber_59]; (try simp (disch := omega) only [Option.bind_some, if_true, if_false, eq_self, not_true_eq_false, not_false_eq_true, am_w_id, if_pos, if_neg, fu_self, fu_ne, Int.toNat_natCast, m_gI_9, m_p_9, m_gI_33, m_p_33, m_O, h1, h9, na, k4, hby, h33, hm, o1, e9, e8, c2, hUs, show ¬ (1 : Int) = 0 by decide]); rw [B_md_readsNumber_110]; (try simp (disch := omega) only [Option.bind_some, if_true, if_false, eq_self, not_true_eq_false, not_false_eq_true, am_w_id, if_pos, if_neg, fu_self, fu_ne, Int.toNat_natCast, h1, h9, na, k4, hby, h33, hm, o1, e9, e8, c2, hUs, show ¬ (1 : Int) = 0 by decide]); rw [B_md_readsNumber_111]; (try simp (disch := omega) only [Option.bind_some, if_true, if_false, eq_self, not_true_eq_false, not_false_eq_true, am_w_id, if_pos, if_neg, fu_self, fu_ne, Int.toNat_natCast, h1, h9, na, k4, hby, h33, hm, o1, e9, e8, c2, hUs, show ¬ (1 : Int) = 0 by decide]); rw [B_md_readsNumber_18]; (try simp (disch := omega) only [Option.bind_some, if_true, if_false, eq_self, not_true_eq_false, not_false_eq_true, am_w_id, if_pos, if_neg, fu_self, fu_ne, Int.toNat_natCast, h1, h9, na, k4, hby, h33, hm, o1, e9, e8, c2, hUs, show ¬ (1 : Int) = 0 by decide])
      · have hr : rdV t a0 (n + 1) a v = rdV t a0 n (a + 1) w := by
          rw [rdV, if_neg c, if_neg c2, p128 hn, ← hw, show t.getD a 0 % 128 = t.getD a 0 - 128 by omega]
        have st : ∀ j, EV (d + 1) N_md_readsNumber T_md_readsNumber_18 [.inr (.inr (some (m))), .inl (lo), .inl (hi), .inl (1), .inl ((k : Int)), j] [] (MH m g S) = EV (d + 1) N_md_readsNumber T_md_readsNumber_18 [.inr (.inr (some (m))), .inl (lo), .inl (hi), .inl (1), .inl (((k + 1 : Nat) : Int)), .inl (t.getD a 0)] [] (MH m g U) := by
          intro j
          (try dsimp only); rw [B_md_readsNumber_18]; (try simp (disch := omega) only [Option.bind_some, if_true, if_false, eq_self, not_true_eq_false, not_false_eq_true, am_w_id, if_pos, if_neg, fu_self, fu_ne, Int.toNat_natCast, h1, h9, na, k4, hby, h33, hm, o1, e9, e8, c2, hUs, show ¬ (1 : Int) = 0 by decide]); rw [B_md_readsNumber_22]; (try simp (disch := omega) only [Option.bind_some, if_true, if_false, eq_self, not_true_eq_false, not_false_eq_true, am_w_id, if_pos, if_neg, fu_self, fu_ne, Int.toNat_natCast, h1, h9, na, k4, hby, h33, hm, o1, e9, e8, c2, hUs, show ¬ (1 : Int) = 0 by decide]); rw [B_md_readsNumber_38]; (try simp (disch := omega) only [Option.bind_some, if_true, if_false, eq_self, not_true_eq_false, not_false_eq_true, am_w_id, if_pos, if_neg, fu_self, fu_ne, Int.toNat_natCast, m_gI_9, m_p_9, m_gI_1, m_p_1, h1, h9, na, k4, hby, h33, hm, o1, e9, e8, c2, hUs, show ¬ (1 : Int) = 0 by decide]); rw [B_md_readsNumber_59]; (try simp (disch := omega) only [Option.bind_some, if_true, if_false, eq_self, not_true_eq_false, not_false_eq_true, am_w_id, if_pos, if_neg, fu_self, fu_ne, Int.toNat_natCast, m_gI_9, m_p_9, m_gI_33, m_p_33, m_O, h1, h9, na, k4, hby, h33, hm, o1, e9, e8, c2, hUs, show ¬ (1 : Int) = 0 by decide]); rw [B_md_readsNumber_106]; (try simp (disch := omega) only [Option.bind_some, if_true, if_false, eq_self, not_true_eq_false, not_false_eq_true, am_w_id, if_pos, if_neg, fu_self, fu_ne, Int.toNat_natCast, h1, h9, na, k4, hby, h33, hm, o1, e9, e8, c2, hUs, show ¬ (1 : Int) = 0 by decide]); rw [B_md_readsNumber_111]; (try simp (disch := omega) only [Option.bind_some, if_true, if_false, eq_self, not_true_eq_false, not_false_eq_true, am_w_id, if_pos, if_neg, fu_self, fu_ne, Int.toNat_natCast, h1, h9, na, k4, hby, h33, hm, o1, e9, e8, c2, hUs, show ¬ (1 : Int) = 0 by decide])
        rw [hr, st]
        rcases ih (k + 1) (a + 1) w (.inl (t.getD a 0)) U (by omega) TU u9 (by omega) u33 o2 o3 u34 with ⟨f, S', g1, g2, g3, g4⟩ | ⟨b, u, k', j', S', g1, g2, g3, g4, g5, g6⟩
        · exact Or.inl ⟨f, S', g1, g2, g3, FU.tr g4⟩
        · exact Or.inr ⟨b, u, k', j', S', g1, g2, g3, g4, g5, FU.tr g6⟩
theorem md_readsNumber (T : taR S t) {a : Nat} (h9 : S 9 0 = (a : Int)) (ha : a ≤ t.length) (lo hi : Int) (d : Nat) :
    ∃ x S', am_cI (d + 1) N_md_readsNumber [.inr (.inr (some (m))), .inl (lo), .inl (hi)] (MH m g S) = some (x, MH m g S') ∧ nuR (rdN t a lo hi) x S' ∧ fd [9, 10, 33, 34] S S' := by
  have hT := T.2.1
  obtain ⟨U, hU⟩ : ∃ U, U = am_fu (am_fu S 34 (fun _ => (a : Int))) 33 (fun _ => 0) := ⟨_, rfl⟩
  have FU : fd [9, 10, 33, 34] S U := by rw [hU]; exact (fd.rf.up (by decide) _).up (by decide) _
  have u9 : U 9 0 = (a : Int) := by rw [hU, fu_ne (by decide), fu_ne (by decide)]; exact h9
  have u33 : U 33 0 = 0 := by rw [hU, fu_self]
  have u34 : U 34 0 = (a : Int) := by rw [hU, fu_ne (by decide), fu_self]
  have TU : taR U t := by unfold taR; rw [FU 0 (by decide), FU 1 (by decide)]; exact T
  have start : am_call (d + 1) N_md_readsNumber [.inr (.inr (some (m))), .inl (lo), .inl (hi)] (MH m g S) = EV (d + 1) N_md_readsNumber T_md_readsNumber_18 [.inr (.inr (some (m))), .inl (lo), .inl (hi), .inl (1), .inl (((0 : Nat) : Int)), am_nul] [] (MH m g U) := by
    (try dsimp only); rw [en_md_readsNumber]; (try simp (disch := omega) only [Option.bind_some, if_true, if_false, eq_self, not_true_eq_false, not_false_eq_true, am_w_id, if_pos, if_neg, fu_self, fu_ne, Int.toNat_natCast, h9, hU.symm]); rw [B_md_readsNumber_0]; (try simp (disch := omega) only [Option.bind_some, if_true, if_false, eq_self, not_true_eq_false, not_false_eq_true, am_w_id, if_pos, if_neg, fu_self, fu_ne, Int.toNat_natCast, m_gI_9, m_p_9, m_gI_34, m_p_34, m_gI_33, m_p_33, h9, hU.symm])
    rfl
  unfold rdN
  rcases md_rdLoop (m := m) (g := g) (t := t) lo hi a (by omega) d 4 0 a 0 am_nul U rfl TU u9 ha u33 (by decide) (by decide) u34 with ⟨f, S', g1, g2, g3, g4⟩ | ⟨b, u, k', j', S', g1, g2, g3, g4, g5, g6⟩
  · rw [g1]
    exact ⟨0, S', am_cI_of (start.trans g2), Or.inl ⟨f, rfl, rfl, g3⟩, FU.tr g4⟩
  · rw [g1]
    dsimp only
    have start2 := start.trans g2
    by_cases c : lo ≤ u ∧ u ≤ hi
    · rw [if_pos c]
      refine ⟨1, S', am_cI_of (start2.trans ?_), Or.inr ⟨b, u, rfl, rfl, g3, g4⟩, FU.tr g6⟩
      have hi' := fun d => (md_isIn d (MH m g S') u lo hi).trans (by rw [if_pos c])
      (try dsimp only); rw [B_md_readsNumber_118]; (try simp (disch := omega) only [Option.bind_some, if_true, if_false, eq_self, not_true_eq_false, not_false_eq_true, am_w_id, if_pos, if_neg, fu_self, fu_ne, Int.toNat_natCast, m_gI_33, m_p_33, g4, hi', show ¬ (1 : Int) = 0 by decide]); rw [B_md_readsNumber_145]; (try simp (disch := omega) only [Option.bind_some, if_true, if_false, eq_self, not_true_eq_false, not_false_eq_true, am_w_id, if_pos, if_neg, fu_self, fu_ne, Int.toNat_natCast, g4, hi', show ¬ (1 : Int) = 0 by decide]); rw [B_md_readsNumber_150]; (try simp (disch := omega) only [Option.bind_some, if_true, if_false, eq_self, not_true_eq_false, not_false_eq_true, am_w_id, if_pos, if_neg, fu_self, fu_ne, Int.toNat_natCast, g4, hi', show ¬ (1 : Int) = 0 by decide])
    · rw [if_neg c]
      have hf := fun d => md_fails (m := m) (g := g) (S := S') 2 (a : Int) (by omega) (by omega) d
      refine ⟨0, am_fu S' 10 (fun _ => 8 * (a : Int) + 2), am_cI_of (start2.trans ?_), Or.inl ⟨_, rfl, rfl, congrFun fu_self 0⟩, (FU.tr g6).up (by decide) _⟩
      have hi' := fun d => (md_isIn d (MH m g S') u lo hi).trans (by rw [if_neg c])
      (try dsimp only); rw [B_md_readsNumber_118]; (try simp (disch := omega) only [Option.bind_some, if_true, if_false, eq_self, not_true_eq_false, not_false_eq_true, am_w_id, if_pos, if_neg, fu_self, fu_ne, Int.toNat_natCast, m_gI_33, m_p_33, g4, g5, hi', hf]); rw [B_md_readsNumber_133]; (try simp (disch := omega) only [Option.bind_some, if_true, if_false, eq_self, not_true_eq_false, not_false_eq_true, am_w_id, if_pos, if_neg, fu_self, fu_ne, Int.toNat_natCast, m_gI_34, m_p_34, m_O, g4, g5, hi', hf]); rw [B_md_readsNumber_149]; (try simp (disch := omega) only [Option.bind_some, if_true, if_false, eq_self, not_true_eq_false, not_false_eq_true, am_w_id, if_pos, if_neg, fu_self, fu_ne, Int.toNat_natCast, g4, g5, hi', hf]); rw [B_md_readsNumber_150]; (try simp (disch := omega) only [Option.bind_some, if_true, if_false, eq_self, not_true_eq_false, not_false_eq_true, am_w_id, if_pos, if_neg, fu_self, fu_ne, Int.toNat_natCast, g4, g5, hi', hf])
/-- the arcs read so far -/
def arcR (S : Nat → Nat → Int) (A : List arc) : Prop := ∀ i x, A[i]? = some x → S 40 i = x.1 ∧ S 41 i = x.2.1 ∧ S 42 i = x.2.2
theorem rdA_len {q : Int} : ∀ {n a : Nat} {l : Int} {b : Nat} {as : List arc}, rdA t q n a l = .inr (b, as) → as.length = n
  | 0, a, l, b, as, h => by
    unfold rdA at h
    injection h with h; injection h with h1 h2
    rw [← h2]; rfl
  | n + 1, a, l, b, as, h => by
    unfold rdA at h
    split at h; · simp at h
    split at h; · simp at h
    split at h; · simp at h
    split at h; · simp at h
    next e =>
    injection h with h; injection h with h1 h2
    rw [← h2, List.length_cons, rdA_len e]
theorem adw1 {a c : Nat} (h1 : a ≤ 400) (h2 : c ≤ 53) : -2147483648 ≤ (a : Int) + (c : Int) := by omega
theorem adw2 {a c : Nat} (h1 : a ≤ 400) (h2 : c ≤ 53) : (a : Int) + (c : Int) < 2147483648 := by omega
theorem adw3 {a c : Nat} (h1 : a ≤ 400) (h2 : c ≤ 53) : am_w ((a : Int) + (c : Int)) = (a : Int) + (c : Int) := am_w_id (adw1 h1 h2) (adw2 h1 h2)
theorem adw4 {a c n : Nat} : ((a : Int) + (c : Int) ≤ (n : Int)) ↔ (a + c ≤ n) := by omega
theorem md_rd76 {s A0 c : Nat} {l : Int} {n : Nat} (hs : s < 1001) (hA0 : A0 ≤ 400) (hc : c ≤ 53) (h38 : S 38 s = (c : Int)) (d : Nat) : EV (d + 2) N_md_readsState T_md_readsState_76 [.inr (.inr (some (m))), .inl ((s : Int)), .inl ((A0 : Int)), .inl (l), .inl ((n : Int))] [] (MH m g S) = if A0 + c ≤ n then EV (d + 2) N_md_readsState T_md_readsState_172 [.inr (.inr (some (m))), .inl ((s : Int)), .inl ((A0 : Int)), .inl (l), .inl ((n : Int))] [] (MH m g S) else EV (d + 2) N_md_readsState T_md_readsState_89 [.inr (.inr (some (m))), .inl ((s : Int)), .inl ((A0 : Int)), .inl (l), .inl ((n : Int))] [] (MH m g S) := by
  have e1 : (s : Int) < 1001 := by omega
  have e0 : (0 : Int) ≤ (s : Int) := by omega
  rw [B_md_readsState_76]
  rw [m_gR_38, Option.bind_some, m_l_38 e0 e1, Option.bind_some, Int.toNat_natCast, h38, adw3 hA0 hc]
  by_cases k : A0 + c ≤ n
  · rw [if_pos k, if_pos (adw4.mpr k)]
  · rw [if_neg k, if_neg (fun h => k (adw4.mp h))]
theorem md_rdArcs {q : Int} (hq : 1 ≤ q ∧ q ≤ 1001) {s A0 c : Nat} (hs : s < 1001) (hA0 : A0 ≤ 400) (d : Nat) : ∀ (n a : Nat) (l : Int) (A : List arc) (S : Nat → Nat → Int), taR S t → S 9 0 = (a : Int) → a ≤ t.length → S 35 0 = q → arcR S A → 3 * A.length ≤ a → S 38 s = (c : Int) → c ≤ 53 → A0 + c = A.length + n → 0 ≤ l ∧ l ≤ 26 →
    (∃ f S', rdA t q n a l = .inl f ∧ EV (d + 2) N_md_readsState T_md_readsState_76 [.inr (.inr (some (m))), .inl ((s : Int)), .inl ((A0 : Int)), .inl (l), .inl ((A.length : Int))] [] (MH m g S) = some (some (.inl 0), MH m g S') ∧ S' 10 0 = f ∧ fd [9, 10, 33, 34, 40, 41, 42] S S') ∨
    ∃ b as S', rdA t q n a l = .inr (b, as) ∧ EV (d + 2) N_md_readsState T_md_readsState_76 [.inr (.inr (some (m))), .inl ((s : Int)), .inl ((A0 : Int)), .inl (l), .inl ((A.length : Int))] [] (MH m g S) = some (some (.inl 1), MH m g S') ∧ S' 9 0 = ((b : Nat) : Int) ∧ arcR S' (A ++ as) ∧ 3 * (A ++ as).length ≤ b ∧ b ≤ t.length ∧ fd [9, 10, 33, 34, 40, 41, 42] S S' := by
  intro n
  induction n with
  | zero =>
    intro a l A S T h9 ha h35 hA h3 h38 hc hn hl
    have hT := T.2.1
    right
    refine ⟨a, [], S, rfl, ?_, h9, by rwa [List.append_nil], by rwa [List.append_nil], ha, fd.rf⟩
    rw [md_rd76 hs hA0 hc h38, if_pos (by omega)]
    (try dsimp only); rw [B_md_readsState_172]; (try simp (disch := omega) only [Option.bind_some, if_true, if_false, eq_self, not_true_eq_false, not_false_eq_true, am_w_id, if_pos, if_neg, fu_self, fu_ne, Int.toNat_natCast])
  | succ n ih =>
    intro a l A S T h9 ha h35 hA h3 h38 hc hn hl
    have hT := T.2.1
    have tar : ∀ {S'}, fd [9, 10, 33, 34, 40, 41, 42] S S' → taR S' t := fun F => by unfold taR; rw [F 0 (by decide), F 1 (by decide)]; exact T
    obtain ⟨x1, S1, f1, r1, q1⟩ := md_readsNumber (m := m) (g := g) T h9 ha (l + 1) 26 (d + 0)
    have F1 : fd [9, 10, 33, 34, 40, 41, 42] S S1 := q1.wide (by decide)
    rw [rdA]
    rcases r1 with ⟨f, e1, rfl, g1⟩ | ⟨b, x, e1, rfl, g1, g2⟩
    · left
      rw [e1]
      refine ⟨f, S1, rfl, ?_, g1, F1⟩
      rw [md_rd76 hs hA0 hc h38, if_neg (by omega)]
      (try dsimp only); rw [B_md_readsState_89]; (try simp (disch := omega) only [Option.bind_some, if_true, if_false, eq_self, not_true_eq_false, not_false_eq_true, am_w_id, if_pos, if_neg, fu_self, fu_ne, Int.toNat_natCast, m_O, h38, f1]); rw [B_md_readsState_101]; (try simp (disch := omega) only [Option.bind_some, if_true, if_false, eq_self, not_true_eq_false, not_false_eq_true, am_w_id, if_pos, if_neg, fu_self, fu_ne, Int.toNat_natCast, h38, f1])
    · obtain ⟨⟨k1, k2⟩, k3, k4⟩ := rdN_ok e1
      rw [e1]
      dsimp only
      obtain ⟨U1, hU1⟩ : ∃ U, U = am_fu S1 40 (am_fu (S1 40) A.length x) := ⟨_, rfl⟩
      have FU1 : fd [9, 10, 33, 34, 40, 41, 42] S U1 := by rw [hU1]; exact F1.up (by decide) _
      have u9 : U1 9 0 = (b : Int) := by rw [hU1, fu_ne (by decide)]; exact g1
      obtain ⟨x2, S2, f2, r2, q2⟩ := md_readsNumber (m := m) (g := g) (tar FU1) u9 k2 0 999999 (d + 0)
      have F2 := FU1.tr (q2.wide (l' := [9, 10, 33, 34, 40, 41, 42]) (by decide))
      rcases r2 with ⟨f, e2, rfl, g3⟩ | ⟨b2, o, e2, rfl, g3, g4⟩
      · left
        rw [e2]
        refine ⟨f, S2, rfl, ?_, g3, F2⟩
        rw [md_rd76 hs hA0 hc h38, if_neg (by omega)]
        (try dsimp only); rw [B_md_readsState_89]; (try simp (disch := omega) only [Option.bind_some, if_true, if_false, eq_self, not_true_eq_false, not_false_eq_true, am_w_id, if_pos, if_neg, fu_self, fu_ne, Int.toNat_natCast, m_O, h38, f1, g2, hU1.symm, f2, show ¬ (1 : Int) = 0 by decide]); rw [B_md_readsState_103]; (try simp (disch := omega) only [Option.bind_some, if_true, if_false, eq_self, not_true_eq_false, not_false_eq_true, am_w_id, if_pos, if_neg, fu_self, fu_ne, Int.toNat_natCast, m_gI_33, m_p_33, m_gR_40, m_l_40, m_s_40, m_O, h38, f1, g2, hU1.symm, f2, show ¬ (1 : Int) = 0 by decide]); rw [B_md_readsState_126]; (try simp (disch := omega) only [Option.bind_some, if_true, if_false, eq_self, not_true_eq_false, not_false_eq_true, am_w_id, if_pos, if_neg, fu_self, fu_ne, Int.toNat_natCast, h38, f1, g2, hU1.symm, f2, show ¬ (1 : Int) = 0 by decide])
      · obtain ⟨⟨k5, k6⟩, k7, k8⟩ := rdN_ok e2
        rw [e2]
        dsimp only
        obtain ⟨U2, hU2⟩ : ∃ U, U = am_fu S2 41 (am_fu (S2 41) A.length o) := ⟨_, rfl⟩
        have FU2 : fd [9, 10, 33, 34, 40, 41, 42] S U2 := by rw [hU2]; exact F2.up (by decide) _
        have v9 : U2 9 0 = (b2 : Int) := by rw [hU2, fu_ne (by decide)]; exact g3
        have v35 : U2 35 0 = q := by rw [FU2 35 (by decide)]; exact h35
        obtain ⟨x3, S3, f3, r3, q3⟩ := md_readsNumber (m := m) (g := g) (tar FU2) v9 k6 0 (q - 1) (d + 0)
        have F3 := FU2.tr (q3.wide (l' := [9, 10, 33, 34, 40, 41, 42]) (by decide))
        rcases r3 with ⟨f, e3, rfl, g5⟩ | ⟨b3, z, e3, rfl, g5, g6⟩
        · left
          rw [e3]
          refine ⟨f, S3, rfl, ?_, g5, F3⟩
          rw [md_rd76 hs hA0 hc h38, if_neg (by omega)]
          (try dsimp only); rw [B_md_readsState_89]; (try simp (disch := omega) only [Option.bind_some, if_true, if_false, eq_self, not_true_eq_false, not_false_eq_true, am_w_id, if_pos, if_neg, fu_self, fu_ne, Int.toNat_natCast, m_O, h38, f1, g2, hU1.symm, f2, g4, hU2.symm, v35, f3, show ¬ (1 : Int) = 0 by decide]); rw [B_md_readsState_103]; (try simp (disch := omega) only [Option.bind_some, if_true, if_false, eq_self, not_true_eq_false, not_false_eq_true, am_w_id, if_pos, if_neg, fu_self, fu_ne, Int.toNat_natCast, m_gI_33, m_p_33, m_gR_40, m_l_40, m_s_40, m_O, h38, f1, g2, hU1.symm, f2, g4, hU2.symm, v35, f3, show ¬ (1 : Int) = 0 by decide]); rw [B_md_readsState_128]; (try simp (disch := omega) only [Option.bind_some, if_true, if_false, eq_self, not_true_eq_false, not_false_eq_true, am_w_id, if_pos, if_neg, fu_self, fu_ne, Int.toNat_natCast, m_gR_41, m_l_41, m_s_41, m_gI_33, m_p_33, m_gI_35, m_p_35, m_O, h38, f1, g2, hU1.symm, f2, g4, hU2.symm, v35, f3, show ¬ (1 : Int) = 0 by decide]); rw [B_md_readsState_153]; (try simp (disch := omega) only [Option.bind_some, if_true, if_false, eq_self, not_true_eq_false, not_false_eq_true, am_w_id, if_pos, if_neg, fu_self, fu_ne, Int.toNat_natCast, h38, f1, g2, hU1.symm, f2, g4, hU2.symm, v35, f3, show ¬ (1 : Int) = 0 by decide])
        · obtain ⟨⟨k9, k10⟩, k11, k12⟩ := rdN_ok e3
          rw [e3]
          dsimp only
          obtain ⟨U3, hU3⟩ : ∃ U, U = am_fu S3 42 (am_fu (S3 42) A.length z) := ⟨_, rfl⟩
          have FU3 : fd [9, 10, 33, 34, 40, 41, 42] S U3 := by rw [hU3]; exact F3.up (by decide) _
          have w9 : U3 9 0 = (b3 : Int) := by rw [hU3, fu_ne (by decide)]; exact g5
          have hlen : (A ++ [(x, (o, z))]).length = A.length + 1 := by simp
          have e9 : (A.length : Int) + 1 = ((A ++ [(x, (o, z))]).length : Int) := by rw [hlen]; omega
          have r40 : U3 40 = am_fu (S 40) A.length x := by
            rw [hU3, fu_ne (by decide), q3 40 (by decide), hU2, fu_ne (by decide), q2 40 (by decide), hU1, fu_self, q1 40 (by decide)]
          have r41 : U3 41 = am_fu (S 41) A.length o := by
            rw [hU3, fu_ne (by decide), q3 41 (by decide), hU2, fu_self, q2 41 (by decide), hU1, fu_ne (by decide), q1 41 (by decide)]
          have r42 : U3 42 = am_fu (S 42) A.length z := by
            rw [hU3, fu_self, q3 42 (by decide), hU2, fu_ne (by decide), q2 42 (by decide), hU1, fu_ne (by decide), q1 42 (by decide)]
          have hA3 : arcR U3 (A ++ [(x, (o, z))]) := by
            intro i y hy
            rw [r40, r41, r42]
            unfold am_fu
            by_cases ci : i = A.length
            · subst ci
              rw [List.getElem?_append_right (Nat.le_refl _), Nat.sub_self] at hy
              injection hy with hy
              rw [if_pos rfl, if_pos rfl, if_pos rfl, ← hy]
              exact ⟨rfl, rfl, rfl⟩
            · have hi := (List.getElem?_eq_some_iff.mp hy).1
              rw [List.getElem?_append_left (by omega)] at hy
              rw [if_neg ci, if_neg ci, if_neg ci]
              exact hA i y hy
          have st : EV (d + 2) N_md_readsState T_md_readsState_76 [.inr (.inr (some (m))), .inl ((s : Int)), .inl ((A0 : Int)), .inl (l), .inl ((A.length : Int))] [] (MH m g S) = EV (d + 2) N_md_readsState T_md_readsState_76 [.inr (.inr (some (m))), .inl ((s : Int)), .inl ((A0 : Int)), .inl (x), .inl (((A ++ [(x, (o, z))]).length : Int))] [] (MH m g U3) := by
            rw [md_rd76 hs hA0 hc h38, if_neg (by omega)]
            (try dsimp only); rw [B_md_readsState_89]; (try simp (disch := omega) only [Option.bind_some, if_true, if_false, eq_self, not_true_eq_false, not_false_eq_true, am_w_id, if_pos, if_neg, fu_self, fu_ne, Int.toNat_natCast, m_O, h38, f1, g2, hU1.symm, f2, g4, hU2.symm, v35, f3, g6, hU3.symm, e9, show ¬ (1 : Int) = 0 by decide]); rw [B_md_readsState_103]; (try simp (disch := omega) only [Option.bind_some, if_true, if_false, eq_self, not_true_eq_false, not_false_eq_true, am_w_id, if_pos, if_neg, fu_self, fu_ne, Int.toNat_natCast, m_gI_33, m_p_33, m_gR_40, m_l_40, m_s_40, m_O, h38, f1, g2, hU1.symm, f2, g4, hU2.symm, v35, f3, g6, hU3.symm, e9, show ¬ (1 : Int) = 0 by decide]); rw [B_md_readsState_128]; (try simp (disch := omega) only [Option.bind_some, if_true, if_false, eq_self, not_true_eq_false, not_false_eq_true, am_w_id, if_pos, if_neg, fu_self, fu_ne, Int.toNat_natCast, m_gR_41, m_l_41, m_s_41, m_gI_33, m_p_33, m_gI_35, m_p_35, m_O, h38, f1, g2, hU1.symm, f2, g4, hU2.symm, v35, f3, g6, hU3.symm, e9, show ¬ (1 : Int) = 0 by decide]); rw [B_md_readsState_155]; (try simp (disch := omega) only [Option.bind_some, if_true, if_false, eq_self, not_true_eq_false, not_false_eq_true, am_w_id, if_pos, if_neg, fu_self, fu_ne, Int.toNat_natCast, m_gR_42, m_l_42, m_s_42, m_gI_33, m_p_33, h38, f1, g2, hU1.symm, f2, g4, hU2.symm, v35, f3, g6, hU3.symm, e9, show ¬ (1 : Int) = 0 by decide])
          rw [st]
          rcases ih b3 x (A ++ [(x, (o, z))]) U3 (tar FU3) w9 k10 (by rw [FU3 35 (by decide)]; exact h35) hA3 (by omega) (by rw [FU3 38 (by decide)]; exact h38) hc (by omega) (by omega) with ⟨f, S', j1, j2, j3, j4⟩ | ⟨c', as, S', j1, j2, j3, j4, j5, j6, j7⟩
          · rw [j1]
            exact Or.inl ⟨f, S', rfl, j2, j3, FU3.tr j4⟩
          · rw [j1]
            rw [List.append_assoc] at j4 j5
            exact Or.inr ⟨c', (x, (o, z)) :: as, S', rfl, j2, j3, j4, j5, j6, FU3.tr j7⟩
theorem rdA_ok {q : Int} : ∀ {n a : Nat} {l : Int} {b : Nat} {as : List arc}, rdA t q n a l = .inr (b, as) → a + 3 * n ≤ b ∧ (a ≤ t.length → b ≤ t.length)
  | 0, a, l, b, as, h => by
    unfold rdA at h
    injection h with h; injection h with h1 h2
    omega
  | n + 1, a, l, b, as, h => by
    unfold rdA at h
    split at h; · simp at h
    next e1 =>
    split at h; · simp at h
    next e2 =>
    split at h; · simp at h
    next e3 =>
    split at h; · simp at h
    next e4 =>
    injection h with h; injection h with h1 h2
    have k1 := (rdN_ok e1).1
    have k2 := (rdN_ok e2).1
    have k3 := (rdN_ok e3).1
    have k4 := rdA_ok e4
    omega
/-- the tables behind one state -/
def s1R (S S' : Nat → Nat → Int) (s A0 : Nat) (x : sta) : Prop := S' 37 = am_fu (S 37) s (A0 : Int) ∧ S' 38 = am_fu (S 38) s (x.2.length : Int) ∧ S' 39 s = x.1 ∧ ∀ i, i ≠ s → S' 39 i = S 39 i
theorem md_readsState {q : Int} (hq : 1 ≤ q ∧ q ≤ 1001) {s a : Nat} {A : List arc} (hs : s < 1001) (T : taR S t) (h9 : S 9 0 = (a : Int)) (ha : a ≤ t.length) (h35 : S 35 0 = q) (hA : arcR S A) (h3 : 3 * A.length ≤ a) (d : Nat) :
    (∃ f S', rdS t q a = .inl f ∧ am_cI (d + 2) N_md_readsState [.inr (.inr (some (m))), .inl ((s : Int)), .inl ((A.length : Int))] (MH m g S) = some (0, MH m g S') ∧ S' 10 0 = f ∧ fd [9, 10, 33, 34, 37, 38, 39, 40, 41, 42] S S') ∨
    ∃ b x S', rdS t q a = .inr (b, x) ∧ am_cI (d + 2) N_md_readsState [.inr (.inr (some (m))), .inl ((s : Int)), .inl ((A.length : Int))] (MH m g S) = some (1, MH m g S') ∧ S' 9 0 = ((b : Nat) : Int) ∧ arcR S' (A ++ x.2) ∧ 3 * (A ++ x.2).length ≤ b ∧ b ≤ t.length ∧ s1R S S' s A.length x ∧ fd [9, 10, 33, 34, 37, 38, 39, 40, 41, 42] S S' := by
  have hT := T.2.1
  have tar : ∀ {S'}, fd [9, 10, 33, 34, 37, 38, 39, 40, 41, 42] S S' → taR S' t := fun F => by unfold taR; rw [F 0 (by decide), F 1 (by decide)]; exact T
  obtain ⟨x1, S1, f1, r1, q1⟩ := md_readsNumber (m := m) (g := g) T h9 ha 0 53 (d + 0)
  have F1 : fd [9, 10, 33, 34, 37, 38, 39, 40, 41, 42] S S1 := q1.wide (by decide)
  unfold rdS
  rcases r1 with ⟨f, e1, rfl, g1⟩ | ⟨b, v, e1, rfl, g1, g2⟩
  · left
    rw [e1]
    refine ⟨f, S1, rfl, am_cI_of ?_, g1, F1⟩
    (try dsimp only); rw [en_md_readsState]; (try simp (disch := omega) only [Option.bind_some, if_true, if_false, eq_self, not_true_eq_false, not_false_eq_true, am_w_id, if_pos, if_neg, fu_self, fu_ne, Int.toNat_natCast, f1]); rw [B_md_readsState_0]; (try simp (disch := omega) only [Option.bind_some, if_true, if_false, eq_self, not_true_eq_false, not_false_eq_true, am_w_id, if_pos, if_neg, fu_self, fu_ne, Int.toNat_natCast, m_O, f1]); rw [B_md_readsState_10]; (try simp (disch := omega) only [Option.bind_some, if_true, if_false, eq_self, not_true_eq_false, not_false_eq_true, am_w_id, if_pos, if_neg, fu_self, fu_ne, Int.toNat_natCast, f1])
  · obtain ⟨⟨k1, k2⟩, k3, k4⟩ := rdN_ok e1
    rw [e1]
    dsimp only
    obtain ⟨c, hc⟩ : ∃ c : Nat, v / 2 = (c : Int) := ⟨(v / 2).toNat, by omega⟩
    have hdv : am_div v 2 = (c : Int) := by rw [bt_div (by omega) (by omega) (by omega) (by omega)]; exact hc
    have hrm : am_rem v 2 = v % 2 := bt_rem (by omega) (by omega) (by omega) (by omega)
    have hct : (v / 2).toNat = c := by omega
    rw [hct]
    obtain ⟨U1, hU1⟩ : ∃ U, U = am_fu (am_fu (am_fu S1 37 (am_fu (S1 37) s (A.length : Int))) 38 (am_fu (S1 38) s (c : Int))) 39 (am_fu (S1 39) s (-2)) := ⟨_, rfl⟩
    have FU1 : fd [9, 10, 33, 34, 37, 38, 39, 40, 41, 42] S U1 := by rw [hU1]; exact ((F1.up (by decide) _).up (by decide) _).up (by decide) _
    have u9 : U1 9 0 = (b : Int) := by rw [hU1, fu_ne (by decide), fu_ne (by decide), fu_ne (by decide)]; exact g1
    have u33 : U1 33 0 = v := by rw [hU1, fu_ne (by decide), fu_ne (by decide), fu_ne (by decide)]; exact g2
    have u37 : U1 37 = am_fu (S 37) s (A.length : Int) := by rw [hU1, fu_ne (by decide), fu_ne (by decide), fu_self, q1 37 (by decide)]
    have u38 : U1 38 = am_fu (S 38) s (c : Int) := by rw [hU1, fu_ne (by decide), fu_self, q1 38 (by decide)]
    have u39 : U1 39 = am_fu (S 39) s (-2) := by rw [hU1, fu_self, q1 39 (by decide)]
    have uA : arcR U1 A := by
      intro i y hy
      have e40 : U1 40 = S 40 := by rw [hU1, fu_ne (by decide), fu_ne (by decide), fu_ne (by decide), q1 40 (by decide)]
      have e41 : U1 41 = S 41 := by rw [hU1, fu_ne (by decide), fu_ne (by decide), fu_ne (by decide), q1 41 (by decide)]
      have e42 : U1 42 = S 42 := by rw [hU1, fu_ne (by decide), fu_ne (by decide), fu_ne (by decide), q1 42 (by decide)]
      rw [e40, e41, e42]
      exact hA i y hy
    by_cases c2 : v % 2 = 1
    · rw [if_pos c2]
      obtain ⟨x2, S2, f2, r2, q2⟩ := md_readsNumber (m := m) (g := g) (tar FU1) u9 k2 0 999999 (d + 0)
      have F2 := FU1.tr (q2.wide (l' := [9, 10, 33, 34, 37, 38, 39, 40, 41, 42]) (by decide))
      rw [c2] at hrm
      rcases r2 with ⟨f, e2, rfl, g3⟩ | ⟨b2, e, e2, rfl, g3, g4⟩
      · left
        rw [e2]
        refine ⟨f, S2, rfl, am_cI_of ?_, g3, F2⟩
        (try dsimp only); rw [en_md_readsState]; (try simp (disch := omega) only [Option.bind_some, if_true, if_false, eq_self, not_true_eq_false, not_false_eq_true, am_w_id, if_pos, if_neg, fu_self, fu_ne, Int.toNat_natCast, f1, g2, hdv, hrm, hU1.symm, u33, f2, show ¬ (1 : Int) = 0 by decide]); rw [B_md_readsState_0]; (try simp (disch := omega) only [Option.bind_some, if_true, if_false, eq_self, not_true_eq_false, not_false_eq_true, am_w_id, if_pos, if_neg, fu_self, fu_ne, Int.toNat_natCast, m_O, f1, g2, hdv, hrm, hU1.symm, u33, f2, show ¬ (1 : Int) = 0 by decide]); rw [B_md_readsState_12]; (try simp (disch := omega) only [Option.bind_some, if_true, if_false, eq_self, not_true_eq_false, not_false_eq_true, am_w_id, if_pos, if_neg, fu_self, fu_ne, Int.toNat_natCast, m_gR_37, m_l_37, m_s_37, m_gR_38, m_l_38, m_s_38, m_gI_33, m_p_33, m_gR_39, m_l_39, m_s_39, f1, g2, hdv, hrm, hU1.symm, u33, f2, show ¬ (1 : Int) = 0 by decide]); rw [B_md_readsState_49]; (try simp (disch := omega) only [Option.bind_some, if_true, if_false, eq_self, not_true_eq_false, not_false_eq_true, am_w_id, if_pos, if_neg, fu_self, fu_ne, Int.toNat_natCast, m_O, f1, g2, hdv, hrm, hU1.symm, u33, f2, show ¬ (1 : Int) = 0 by decide]); rw [B_md_readsState_59]; (try simp (disch := omega) only [Option.bind_some, if_true, if_false, eq_self, not_true_eq_false, not_false_eq_true, am_w_id, if_pos, if_neg, fu_self, fu_ne, Int.toNat_natCast, f1, g2, hdv, hrm, hU1.symm, u33, f2, show ¬ (1 : Int) = 0 by decide])
      · obtain ⟨⟨k5, k6⟩, k7, k8⟩ := rdN_ok e2
        rw [e2]
        dsimp only
        obtain ⟨U2, hU2⟩ : ∃ U, U = am_fu S2 39 (am_fu (S2 39) s e) := ⟨_, rfl⟩
        have FU2 : fd [9, 10, 33, 34, 37, 38, 39, 40, 41, 42] S U2 := by rw [hU2]; exact F2.up (by decide) _
        have v9 : U2 9 0 = (b2 : Int) := by rw [hU2, fu_ne (by decide)]; exact g3
        have v37 : U2 37 = am_fu (S 37) s (A.length : Int) := by rw [hU2, fu_ne (by decide), q2 37 (by decide)]; exact u37
        have v38 : U2 38 = am_fu (S 38) s (c : Int) := by rw [hU2, fu_ne (by decide), q2 38 (by decide)]; exact u38
        have v39 : U2 39 = am_fu (am_fu (S 39) s (-2)) s e := by rw [hU2, fu_self, q2 39 (by decide), u39]
        have vA : arcR U2 A := by
          intro i y hy
          have e40 : U2 40 = U1 40 := by rw [hU2, fu_ne (by decide), q2 40 (by decide)]
          have e41 : U2 41 = U1 41 := by rw [hU2, fu_ne (by decide), q2 41 (by decide)]
          have e42 : U2 42 = U1 42 := by rw [hU2, fu_ne (by decide), q2 42 (by decide)]
          rw [e40, e41, e42]
          exact uA i y hy
        have st : am_call (d + 2) N_md_readsState [.inr (.inr (some (m))), .inl ((s : Int)), .inl ((A.length : Int))] (MH m g S) = EV (d + 2) N_md_readsState T_md_readsState_76 [.inr (.inr (some (m))), .inl ((s : Int)), .inl ((A.length : Int)), .inl (0), .inl ((A.length : Int))] [] (MH m g U2) := by
          (try dsimp only); rw [en_md_readsState]; (try simp (disch := omega) only [Option.bind_some, if_true, if_false, eq_self, not_true_eq_false, not_false_eq_true, am_w_id, if_pos, if_neg, fu_self, fu_ne, Int.toNat_natCast, f1, g2, hdv, hrm, hU1.symm, u33, f2, g4, hU2.symm, show ¬ (1 : Int) = 0 by decide]); rw [B_md_readsState_0]; (try simp (disch := omega) only [Option.bind_some, if_true, if_false, eq_self, not_true_eq_false, not_false_eq_true, am_w_id, if_pos, if_neg, fu_self, fu_ne, Int.toNat_natCast, m_O, f1, g2, hdv, hrm, hU1.symm, u33, f2, g4, hU2.symm, show ¬ (1 : Int) = 0 by decide]); rw [B_md_readsState_12]; (try simp (disch := omega) only [Option.bind_some, if_true, if_false, eq_self, not_true_eq_false, not_false_eq_true, am_w_id, if_pos, if_neg, fu_self, fu_ne, Int.toNat_natCast, m_gR_37, m_l_37, m_s_37, m_gR_38, m_l_38, m_s_38, m_gI_33, m_p_33, m_gR_39, m_l_39, m_s_39, f1, g2, hdv, hrm, hU1.symm, u33, f2, g4, hU2.symm, show ¬ (1 : Int) = 0 by decide]); rw [B_md_readsState_49]; (try simp (disch := omega) only [Option.bind_some, if_true, if_false, eq_self, not_true_eq_false, not_false_eq_true, am_w_id, if_pos, if_neg, fu_self, fu_ne, Int.toNat_natCast, m_O, f1, g2, hdv, hrm, hU1.symm, u33, f2, g4, hU2.symm, show ¬ (1 : Int) = 0 by decide]); rw [B_md_readsState_61]; (try simp (disch := omega) only [Option.bind_some, if_true, if_false, eq_self, not_true_eq_false, not_false_eq_true, am_w_id, if_pos, if_neg, fu_self, fu_ne, Int.toNat_natCast, m_gR_39, m_l_39, m_s_39, m_gI_33, m_p_33, f1, g2, hdv, hrm, hU1.symm, u33, f2, g4, hU2.symm, show ¬ (1 : Int) = 0 by decide]); rw [B_md_readsState_71]; (try simp (disch := omega) only [Option.bind_some, if_true, if_false, eq_self, not_true_eq_false, not_false_eq_true, am_w_id, if_pos, if_neg, fu_self, fu_ne, Int.toNat_natCast, f1, g2, hdv, hrm, hU1.symm, u33, f2, g4, hU2.symm, show ¬ (1 : Int) = 0 by decide])
        rcases md_rdArcs (m := m) (g := g) (t := t) hq hs (A0 := A.length) (c := c) (by omega) d c b2 0 A U2 (tar FU2) v9 k6 (by rw [FU2 35 (by decide)]; exact h35) vA (by omega) (by rw [v38]; exact if_pos rfl) (by omega) rfl (by decide) with ⟨f, S', j1, j2, j3, j4⟩ | ⟨c', as, S', j1, j2, j3, j4, j5, j6, j7⟩
        · rw [j1]
          exact Or.inl ⟨f, S', rfl, am_cI_of (st.trans j2), j3, FU2.tr (j4.wide (by decide))⟩
        · have hl := rdA_len j1
          rw [j1]
          refine Or.inr ⟨c', (e, as), S', rfl, am_cI_of (st.trans j2), j3, j4, j5, j6, ⟨?_, ?_, ?_, fun i hi => ?_⟩, FU2.tr (j7.wide (by decide))⟩
          · rw [j7 37 (by decide)]; exact v37
          · rw [j7 38 (by decide), v38]; dsimp only; rw [hl]
          · rw [j7 39 (by decide), v39]; exact if_pos rfl
          · rw [j7 39 (by decide), v39]; unfold am_fu; rw [if_neg hi, if_neg hi]
    · rw [if_neg c2]
      have hrm' : ¬ v % 2 = 1 := c2
      have st : am_call (d + 2) N_md_readsState [.inr (.inr (some (m))), .inl ((s : Int)), .inl ((A.length : Int))] (MH m g S) = EV (d + 2) N_md_readsState T_md_readsState_76 [.inr (.inr (some (m))), .inl ((s : Int)), .inl ((A.length : Int)), .inl (0), .inl ((A.length : Int))] [] (MH m g U1) := by
        (try dsimp only); rw [en_md_readsState]; (try simp (disch := omega) only [Option.bind_some, if_true, if_false, eq_self, not_true_eq_false, not_false_eq_true, am_w_id, if_pos, if_neg, fu_self, fu_ne, Int.toNat_natCast, f1, g2, hdv, hrm, hrm', hU1.symm, u33, show ¬ (1 : Int) = 0 by decide]); rw [B_md_readsState_0]; (try simp (disch := omega) only [Option.bind_some, if_true, if_false, eq_self, not_true_eq_false, not_false_eq_true, am_w_id, if_pos, if_neg, fu_self, fu_ne, Int.toNat_natCast, m_O, f1, g2, hdv, hrm, hrm', hU1.symm, u33, show ¬ (1 : Int) = 0 by decide]); rw [B_md_readsState_12]; (try simp (disch := omega) only [Option.bind_some, if_true, if_false, eq_self, not_true_eq_false, not_false_eq_true, am_w_id, if_pos, if_neg, fu_self, fu_ne, Int.toNat_natCast, m_gR_37, m_l_37, m_s_37, m_gR_38, m_l_38, m_s_38, m_gI_33, m_p_33, m_gR_39, m_l_39, m_s_39, f1, g2, hdv, hrm, hrm', hU1.symm, u33, show ¬ (1 : Int) = 0 by decide]); rw [B_md_readsState_71]; (try simp (disch := omega) only [Option.bind_some, if_true, if_false, eq_self, not_true_eq_false, not_false_eq_true, am_w_id, if_pos, if_neg, fu_self, fu_ne, Int.toNat_natCast, f1, g2, hdv, hrm, hrm', hU1.symm, u33, show ¬ (1 : Int) = 0 by decide])
      rcases md_rdArcs (m := m) (g := g) (t := t) hq hs (A0 := A.length) (c := c) (by omega) d c b 0 A U1 (tar FU1) u9 k2 (by rw [FU1 35 (by decide)]; exact h35) uA (by omega) (by rw [u38]; exact if_pos rfl) (by omega) rfl (by decide) with ⟨f, S', j1, j2, j3, j4⟩ | ⟨c', as, S', j1, j2, j3, j4, j5, j6, j7⟩
      · rw [j1]
        exact Or.inl ⟨f, S', rfl, am_cI_of (st.trans j2), j3, FU1.tr (j4.wide (by decide))⟩
      · have hl := rdA_len j1
        rw [j1]
        refine Or.inr ⟨c', (-2, as), S', rfl, am_cI_of (st.trans j2), j3, j4, j5, j6, ⟨?_, ?_, ?_, fun i hi => ?_⟩, FU1.tr (j7.wide (by decide))⟩
        · rw [j7 37 (by decide)]; exact u37
        · rw [j7 38 (by decide), u38]; dsimp only; rw [hl]
        · rw [j7 39 (by decide), u39]; exact if_pos rfl
        · rw [j7 39 (by decide), u39]; unfold am_fu; rw [if_neg hi]
/-- all arcs of states -/
def fla (ss : List sta) : List arc := ss.flatMap (fun x => x.2)
theorem fla_snoc (ss : List sta) (x : sta) : fla (ss ++ [x]) = fla ss ++ x.2 := by
  unfold fla
  rw [List.flatMap_append]
  simp
/-- the tables of the states read so far -/
def upS (S : Nat → Nat → Int) (ss : List sta) : Prop := ∀ s x, ss[s]? = some x → S 37 s = ((fla (ss.take s)).length : Int) ∧ S 38 s = (x.2.length : Int) ∧ S 39 s = x.1
theorem upS_snoc {S S' : Nat → Nat → Int} {ss : List sta} {x : sta} (h : upS S ss) (h1 : s1R S S' ss.length (fla ss).length x) : upS S' (ss ++ [x]) := by
  obtain ⟨a, b, c, e⟩ := h1
  intro s y hy
  rw [a, b]
  unfold am_fu
  by_cases cs : s = ss.length
  · subst cs
    rw [List.getElem?_append_right (Nat.le_refl _), Nat.sub_self] at hy
    injection hy with hy
    rw [if_pos rfl, if_pos rfl, ← hy, List.take_left']
    · exact ⟨rfl, rfl, c⟩
    · rfl
  · have hi := (List.getElem?_eq_some_iff.mp hy).1
    rw [List.length_append, List.length_singleton] at hi
    rw [List.getElem?_append_left (by omega)] at hy
    rw [if_neg cs, if_neg cs, e s cs, List.take_append_of_le_length (by omega)]
    exact h s y hy
theorem md_rdStates {q : Int} (hq : 1 ≤ q ∧ q ≤ 1001) (d : Nat) : ∀ (n a : Nat) (ss : List sta) (S : Nat → Nat → Int), (ss.length : Int) + n = q → taR S t → S 9 0 = (a : Int) → a ≤ t.length → S 35 0 = q → arcR S (fla ss) → upS S ss → 3 * (fla ss).length ≤ a →
    (∃ f S', rdSs t q n a = .inl f ∧ EV (d + 3) N_md_readsBytes T_md_readsBytes_50 [.inr (.inr (some (m))), .inl (((fla ss).length : Int)), .inl ((ss.length : Int))] [] (MH m g S) = some (some (.inl 0), MH m g S') ∧ S' 10 0 = f ∧ fd [9, 10, 33, 34, 37, 38, 39, 40, 41, 42] S S') ∨
    ∃ b s2 S', rdSs t q n a = .inr (b, s2) ∧ EV (d + 3) N_md_readsBytes T_md_readsBytes_50 [.inr (.inr (some (m))), .inl (((fla ss).length : Int)), .inl ((ss.length : Int))] [] (MH m g S) = EV (d + 3) N_md_readsBytes T_md_readsBytes_84 [.inr (.inr (some (m))), .inl (((fla (ss ++ s2)).length : Int)), .inl (q)] [] (MH m g S') ∧ S' 9 0 = ((b : Nat) : Int) ∧ ((ss ++ s2).length : Int) = q ∧ arcR S' (fla (ss ++ s2)) ∧ upS S' (ss ++ s2) ∧ 3 * (fla (ss ++ s2)).length ≤ b ∧ b ≤ t.length ∧ fd [9, 10, 33, 34, 37, 38, 39, 40, 41, 42] S S' := by
  intro n
  induction n with
  | zero =>
    intro a ss S hn T h9 ha h35 hA hU h3
    have hT := T.2.1
    right
    have hq' : (ss.length : Int) = q := by omega
    refine ⟨a, [], S, rfl, ?_, h9, by rw [List.append_nil]; exact hq', by rwa [List.append_nil], by rwa [List.append_nil], by rwa [List.append_nil], ha, fd.rf⟩
    rw [List.append_nil, hq']
    (try dsimp only); rw [B_md_readsBytes_50]; (try simp (disch := omega) only [Option.bind_some, if_true, if_false, eq_self, not_true_eq_false, not_false_eq_true, am_w_id, if_pos, if_neg, fu_self, fu_ne, Int.toNat_natCast, m_gI_35, m_p_35, h35, Int.le_refl])
  | succ n ih =>
    intro a ss S hn T h9 ha h35 hA hU h3
    have hT := T.2.1
    have hlt : ¬ q ≤ (ss.length : Int) := by omega
    rw [rdSs]
    rcases md_readsState (m := m) (g := g) (t := t) hq (s := ss.length) (by omega) T h9 ha h35 hA h3 d with ⟨f, S1, e1, f1, g1, q1⟩ | ⟨b, x, S1, e1, f1, g1, g2, g3, g4, g5, q1⟩
    · left
      rw [e1]
      refine ⟨f, S1, rfl, ?_, g1, q1⟩
      (try dsimp only); rw [B_md_readsBytes_50]; (try simp (disch := omega) only [Option.bind_some, if_true, if_false, eq_self, not_true_eq_false, not_false_eq_true, am_w_id, if_pos, if_neg, fu_self, fu_ne, Int.toNat_natCast, m_gI_35, m_p_35, h35, hlt, f1]); rw [B_md_readsBytes_58]; (try simp (disch := omega) only [Option.bind_some, if_true, if_false, eq_self, not_true_eq_false, not_false_eq_true, am_w_id, if_pos, if_neg, fu_self, fu_ne, Int.toNat_natCast, m_O, h35, hlt, f1]); rw [B_md_readsBytes_67]; (try simp (disch := omega) only [Option.bind_some, if_true, if_false, eq_self, not_true_eq_false, not_false_eq_true, am_w_id, if_pos, if_neg, fu_self, fu_ne, Int.toNat_natCast, h35, hlt, f1])
    · rw [e1]
      dsimp only
      have T1 : taR S1 t := by unfold taR; rw [q1 0 (by decide), q1 1 (by decide)]; exact T
      have h38 : S1 38 ss.length = (x.2.length : Int) := by rw [g5.2.1]; exact if_pos rfl
      have hfl : fla ss ++ x.2 = fla (ss ++ [x]) := (fla_snoc ss x).symm
      rw [hfl] at g2 g3
      have e7 : ((fla ss).length : Int) + (x.2.length : Int) = ((fla (ss ++ [x])).length : Int) := by rw [← hfl, List.length_append]; omega
      have e8 : (ss.length : Int) + 1 = ((ss ++ [x]).length : Int) := by rw [List.length_append, List.length_singleton]; omega
      have hb1 : ((fla (ss ++ [x])).length : Int) < 1000 := by omega
      have hb2 : ((ss ++ [x]).length : Int) < 2000 := by omega
      have st : EV (d + 3) N_md_readsBytes T_md_readsBytes_50 [.inr (.inr (some (m))), .inl (((fla ss).length : Int)), .inl ((ss.length : Int))] [] (MH m g S) = EV (d + 3) N_md_readsBytes T_md_readsBytes_50 [.inr (.inr (some (m))), .inl (((fla (ss ++ [x])).length : Int)), .inl (((ss ++ [x]).length : Int))] [] (MH m g S1) := by
        (try dsimp only); rw [B_md_readsBytes_50]; (try simp (disch := omega) only [Option.bind_some, if_true, if_false, eq_self, not_true_eq_false, not_false_eq_true, am_w_id, if_pos, if_neg, fu_self, fu_ne, Int.toNat_natCast, m_gI_35, m_p_35, h35, hlt, f1, h38, e7, e8, show ¬ (1 : Int) = 0 by decide]); rw [B_md_readsBytes_58]; (try simp (disch := omega) only [Option.bind_some, if_true, if_false, eq_self, not_true_eq_false, not_false_eq_true, am_w_id, if_pos, if_neg, fu_self, fu_ne, Int.toNat_natCast, m_O, h35, hlt, f1, h38, e7, e8, show ¬ (1 : Int) = 0 by decide]); rw [B_md_readsBytes_69]; (try simp (disch := omega) only [Option.bind_some, if_true, if_false, eq_self, not_true_eq_false, not_false_eq_true, am_w_id, if_pos, if_neg, fu_self, fu_ne, Int.toNat_natCast, m_gR_38, m_l_38, m_s_38, h35, hlt, f1, h38, e7, e8, show ¬ (1 : Int) = 0 by decide])
      rw [st]
      rcases ih b (ss ++ [x]) S1 (by rw [List.length_append, List.length_singleton]; omega) T1 g1 g4 (by rw [q1 35 (by decide)]; exact h35) g2 (upS_snoc hU g5) g3 with ⟨f, S', j1, j2, j3, j4⟩ | ⟨b', s2, S', j1, j2, j3, j4, j5, j6, j7, j8, j9⟩
      · rw [j1]
        exact Or.inl ⟨f, S', rfl, j2, j3, q1.tr j4⟩
      · rw [j1]
        have ha' : ss ++ [x] ++ s2 = ss ++ (x :: s2) := by simp
        rw [ha'] at j2 j4 j5 j6 j7
        exact Or.inr ⟨b', x :: s2, S', rfl, j2, j3, j4, j5, j6, j7, j8, q1.tr j9⟩
end MO
