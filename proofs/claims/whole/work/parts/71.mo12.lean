/-! pack: the model's -/
def enF : Nat → Int → List Int
  | 0, v => [v]
  | n + 1, v => if v ≤ 127 then [v] else (v % 128 + 128) :: enF n (v / 128)
/-- a NUMBER in bytes -/
def enc (v : Int) : List Int := enF 4 v
/-- an arc's numbers, a state's, all bytes -/
def kN (ws : List wd) (j c : Nat) : List Int := enc (ll ws c) ++ (enc (lst ws (pn ws c) - lst ws (pn ws j)) ++ enc (stt ws c : Int))
def stH (ws : List wd) (j : Nat) : List Int := enc (2 * ((kd ws j).length : Int) + (if en ws (pn ws j) = -2 then 0 else 1)) ++ (if en ws (pn ws j) = -2 then [] else enc (en ws (pn ws j)))
def stN (ws : List wd) (j : Nat) : List Int := stH ws j ++ (kd ws j).flatMap (kN ws j)
def pkE (ws : List wd) : List Int := enc (nS ws : Int) ++ (enc (lst ws []) ++ (fst ws).flatMap (stN ws))
def sp_pack (s : Sta) : Int × Sta := if (pkE s.2.1).length ≤ 400 then ((pkE s.2.1).length, (pkE s.2.1, s.2)) else (-2, s)
theorem enF_bd : ∀ (n : Nat) (v : Int), 0 ≤ v → v < 128 ^ (n + 1) → ∀ x ∈ enF n v, 0 ≤ x ∧ x < 256
  | 0, v, h0, h1, x, hx => by
    have h1' : v < 128 := h1
    simp only [enF, List.mem_singleton] at hx
    omega
  | n + 1, v, h0, h1, x, hx => by
    unfold enF at hx
    split at hx
    · simp only [List.mem_singleton] at hx
      omega
    · rcases List.mem_cons.mp hx with g | g
      · omega
      · refine enF_bd n (v / 128) (by omega) ?_ x g
        exact Int.ediv_lt_of_lt_mul (by decide) (by rw [← Int.pow_succ]; exact h1)
theorem enc_bd {v : Int} (h0 : 0 ≤ v) (h1 : v < 2147483648) : ∀ x ∈ enc v, 0 ≤ x ∧ x < 256 := enF_bd 4 v h0 (by rw [show (128 : Int) ^ (4 + 1) = 34359738368 from rfl]; omega)
theorem lst_bd {ws : List wd} (hk : ∀ p ∈ ws, wk p) (p : List Int) : 0 ≤ lst ws p ∧ lst ws p ≤ 999999 := by
  by_cases c : sb ws p = []
  · unfold lst; rw [if_pos c]; decide
  · obtain ⟨q, q1, q2⟩ := (lst_min hk c).2
    have := (hk q (sb_mem.mp q1).1).2.2.2
    omega
theorem lst_kd {ws : List wd} (hok : ok ws) {j c : Nat} (hj : j < nN ws) (hc : c ∈ kd ws j) : lst ws (pn ws j) ≤ lst ws (pn ws c) := by
  obtain ⟨e1, e2, _⟩ := kd_ll hok.2.1 hj hc
  rw [← e1] at e2
  have hn : ws ≠ [] := fun e => by
    subst e
    rcases e2 with h | ⟨q, h1, h2⟩
    · rw [e1] at h; simp at h
    · simp at h1
  have h1 : sb ws (pn ws c) ≠ [] := List.length_pos_iff.mp (sb_pos e2 hn)
  obtain ⟨q, q1, q2⟩ := (lst_min hok.1 h1).2
  have q3 : q ∈ sb ws (pn ws j) := by
    obtain ⟨a, b⟩ := sb_mem.mp q1
    exact sb_mem.mpr ⟨a, List.IsPrefix.trans (by rw [e1]; exact List.prefix_append _ _) b⟩
  have h3 := (lst_min hok.1 (List.ne_nil_of_mem q3)).1 q q3
  omega
theorem ll_bd {ws : List wd} (hok : ok ws) {j c : Nat} (hj : j < nN ws) (hc : c ∈ kd ws j) : 1 ≤ ll ws c ∧ ll ws c ≤ 26 := by
  obtain ⟨e1, e2, _⟩ := kd_ll hok.2.1 hj hc
  rcases e2 with h | ⟨q, h1, h2⟩
  · simp at h
  · exact (hok.1 q h1).1 _ (h2.subset (by simp))
theorem en_bd {ws : List wd} (hok : ok ws) {p : List Int} (h : ¬ en ws p = -2) : 0 ≤ en ws p ∧ en ws p ≤ 999999 := by
  refine ⟨(en_nn hok.1 hok.2.1 p).resolve_left h, ?_⟩
  unfold en at h ⊢
  cases e : nu ws p with
  | none => rw [e] at h; exact absurd rfl h
  | some n =>
    have := (hok.1 _ ((nu_mem hok.2.1).mp e)).2.2.2
    have := lst_bd hok.1 p
    dsimp only at *
    omega
/-- the bytes packed so far -/
def pkR (S : Nat → Nat → Int) (B : List Int) : Prop := S 32 0 = (B.length : Int) ∧ B.length ≤ 400 ∧ (∀ x ∈ B, 0 ≤ x ∧ x < 256) ∧ ∀ i, i < B.length → S 31 i = sby (B.getD i 0)
def pkO (S : Nat → Nat → Int) (B E : List Int) (x : Int) (S' : Nat → Nat → Int) : Prop := x = (if B.length + E.length ≤ 400 then 1 else 0) ∧ (B.length + E.length ≤ 400 → pkR S' (B ++ E)) ∧ fd [31, 32] S S'
abbrev pks (S : Nat → Nat → Int) (n : Nat) (b : Int) : Nat → Nat → Int := am_fu (am_fu S 31 (am_fu (S 31) n (sby b))) 32 (fun _ => ((n + 1 : Nat) : Int))
theorem pkR_snoc {S : Nat → Nat → Int} {B : List Int} (P : pkR S B) {b : Int} (h0 : 0 ≤ b) (h1 : b < 256) (hl : B.length < 400) : pkR (pks S B.length b) (B ++ [b]) := by
  obtain ⟨p1, p2, p3, p4⟩ := P
  have hlen : (B ++ [b]).length = B.length + 1 := by simp
  refine ⟨?_, by omega, fun x hx => ?_, fun i hi => ?_⟩
  · unfold pks; rw [fu_self, hlen]
  · rcases List.mem_append.mp hx with g | g
    · exact p3 x g
    · rw [List.mem_singleton.mp g]; exact ⟨h0, h1⟩
  · unfold pks
    rw [fu_ne (by decide), fu_self]
    unfold am_fu
    by_cases c : i = B.length
    · subst c; rw [if_pos rfl]; simp
    · rw [if_neg c, p4 i (by omega), List.getD_eq_getElem?_getD, List.getD_eq_getElem?_getD, List.getElem?_append_left (by omega)]
theorem or128 : ∀ k : Fin 128, k.val ||| 128 = k.val + 128 := by decide
section MO
variable {m : Nat} {g : am_H} {S : Nat → Nat → Int} {ws : List wd}
theorem md_putsLoop (a : Int) (d : Nat) : ∀ (n : Nat) (v : Int) (B : List Int) (S : Nat → Nat → Int), 0 ≤ v → v < 2147483648 → v < 128 ^ (n + 1) → pkR S B →
    ∃ x S', EV d N_md_putsNumber T_md_putsNumber_4 [.inr (.inr (some (m))), .inl (a), .inl (v), .inl (1)] [] (MH m g S) = some (some (.inl x), MH m g S') ∧ pkO S B (enF n v) x S' := by
  intro n
  induction n with
  | zero =>
    intro v B S h0 hv h1 P
    have h1' : v < 128 := h1
    obtain ⟨p1, p2, p3, p4⟩ := id P
    by_cases c : B.length = 400
    · refine ⟨0, S, ?_, ?_, fun h => ?_, fd.rf⟩
      · (try dsimp only); rw [B_md_putsNumber_4]; (try simp (disch := omega) only [Option.bind_some, if_true, if_false, eq_self, not_true_eq_false, not_false_eq_true, am_w_id, if_pos, if_neg, fu_self, fu_ne, Int.toNat_natCast, p1, c, show ¬ (1 : Int) = 0 by decide, show ((400 : Nat) : Int) = 400 from rfl]); rw [B_md_putsNumber_8]; (try simp (disch := omega) only [Option.bind_some, if_true, if_false, eq_self, not_true_eq_false, not_false_eq_true, am_w_id, if_pos, if_neg, fu_self, fu_ne, Int.toNat_natCast, m_gI_32, m_p_32, p1, c, show ¬ (1 : Int) = 0 by decide, show ((400 : Nat) : Int) = 400 from rfl]); rw [B_md_putsNumber_18]; (try simp (disch := omega) only [Option.bind_some, if_true, if_false, eq_self, not_true_eq_false, not_false_eq_true, am_w_id, if_pos, if_neg, fu_self, fu_ne, Int.toNat_natCast, p1, c, show ¬ (1 : Int) = 0 by decide, show ((400 : Nat) : Int) = 400 from rfl])
      · unfold enF; rw [if_neg (by simp; omega)]
      · unfold enF at h; simp at h; omega
    · have hs := sby_bd h0 (show v < 256 by omega)
      have e1 : am_i2b v = sby v := by rw [bt_i2b (by unfold am_inI; omega), show v % 256 = v by omega]
      have e9 : (B.length : Int) + 1 = ((B.length + 1 : Nat) : Int) := by omega
      have n1 : ¬ (B.length : Int) = 400 := by omega
      refine ⟨1, pks S B.length v, ?_, ?_, fun _ => ?_, ?_⟩
      rotate_left
      · unfold enF; rw [if_pos (by simp; omega)]
      · exact pkR_snoc P h0 (by omega) (by omega)
      · exact (fd.rf.up (by decide) _).up (by decide) _
      · (try dsimp only); rw [B_md_putsNumber_4]; (try simp (disch := omega) only [Option.bind_some, if_true, if_false, eq_self, not_true_eq_false, not_false_eq_true, am_w_id, if_pos, if_neg, fu_self, fu_ne, Int.toNat_natCast, p1, n1, e1, m_s_31, e9, show ¬ (1 : Int) = 0 by decide]); rw [B_md_putsNumber_8]; (try simp (disch := omega) only [Option.bind_some, if_true, if_false, eq_self, not_true_eq_false, not_false_eq_true, am_w_id, if_pos, if_neg, fu_self, fu_ne, Int.toNat_natCast, m_gI_32, m_p_32, p1, n1, e1, m_s_31, e9, show ¬ (1 : Int) = 0 by decide]); rw [B_md_putsNumber_20]; (try simp (disch := omega) only [Option.bind_some, if_true, if_false, eq_self, not_true_eq_false, not_false_eq_true, am_w_id, if_pos, if_neg, fu_self, fu_ne, Int.toNat_natCast, p1, n1, e1, m_s_31, e9, show ¬ (1 : Int) = 0 by decide]); rw [B_md_putsNumber_30]; (try simp (disch := omega) only [Option.bind_some, if_true, if_false, eq_self, not_true_eq_false, not_false_eq_true, am_w_id, if_pos, if_neg, fu_self, fu_ne, Int.toNat_natCast, p1, n1, e1, m_s_31, e9, show ¬ (1 : Int) = 0 by decide]); rw [B_md_putsNumber_31]; (try simp (disch := omega) only [Option.bind_some, if_true, if_false, eq_self, not_true_eq_false, not_false_eq_true, am_w_id, if_pos, if_neg, fu_self, fu_ne, Int.toNat_natCast, m_gR_31, m_l_31, m_s_31, m_gI_32, m_p_32, p1, n1, e1, m_s_31, e9, show ¬ (1 : Int) = 0 by decide]); rw [B_md_putsNumber_55]; (try simp (disch := omega) only [Option.bind_some, if_true, if_false, eq_self, not_true_eq_false, not_false_eq_true, am_w_id, if_pos, if_neg, fu_self, fu_ne, Int.toNat_natCast, p1, n1, e1, m_s_31, e9, show ¬ (1 : Int) = 0 by decide]); rw [B_md_putsNumber_56]; (try simp (disch := omega) only [Option.bind_some, if_true, if_false, eq_self, not_true_eq_false, not_false_eq_true, am_w_id, if_pos, if_neg, fu_self, fu_ne, Int.toNat_natCast, m_gI_32, m_p_32, p1, n1, e1, m_s_31, e9, show ¬ (1 : Int) = 0 by decide]); rw [B_md_putsNumber_4]; (try simp (disch := omega) only [Option.bind_some, if_true, if_false, eq_self, not_true_eq_false, not_false_eq_true, am_w_id, if_pos, if_neg, fu_self, fu_ne, Int.toNat_natCast, p1, n1, e1, m_s_31, e9, show ¬ (1 : Int) = 0 by decide]); rw [B_md_putsNumber_76]; (try simp (disch := omega) only [Option.bind_some, if_true, if_false, eq_self, not_true_eq_false, not_false_eq_true, am_w_id, if_pos, if_neg, fu_self, fu_ne, Int.toNat_natCast, p1, n1, e1, m_s_31, e9, show ¬ (1 : Int) = 0 by decide])
  | succ n ih =>
    intro v B S h0 hv h1 P
    obtain ⟨p1, p2, p3, p4⟩ := id P
    have hpos : 0 < (enF (n + 1) v).length := by unfold enF; split <;> simp
    by_cases c : B.length = 400
    · refine ⟨0, S, ?_, ?_, fun h => ?_, fd.rf⟩
      · (try dsimp only); rw [B_md_putsNumber_4]; (try simp (disch := omega) only [Option.bind_some, if_true, if_false, eq_self, not_true_eq_false, not_false_eq_true, am_w_id, if_pos, if_neg, fu_self, fu_ne, Int.toNat_natCast, p1, c, show ¬ (1 : Int) = 0 by decide, show ((400 : Nat) : Int) = 400 from rfl]); rw [B_md_putsNumber_8]; (try simp (disch := omega) only [Option.bind_some, if_true, if_false, eq_self, not_true_eq_false, not_false_eq_true, am_w_id, if_pos, if_neg, fu_self, fu_ne, Int.toNat_natCast, m_gI_32, m_p_32, p1, c, show ¬ (1 : Int) = 0 by decide, show ((400 : Nat) : Int) = 400 from rfl]); rw [B_md_putsNumber_18]; (try simp (disch := omega) only [Option.bind_some, if_true, if_false, eq_self, not_true_eq_false, not_false_eq_true, am_w_id, if_pos, if_neg, fu_self, fu_ne, Int.toNat_natCast, p1, c, show ¬ (1 : Int) = 0 by decide, show ((400 : Nat) : Int) = 400 from rfl])
      · rw [if_neg (by omega)]
      · omega
    · have e9 : (B.length : Int) + 1 = ((B.length + 1 : Nat) : Int) := by omega
      have n1 : ¬ (B.length : Int) = 400 := by omega
      by_cases c2 : v ≤ 127
      · have hs := sby_bd h0 (show v < 256 by omega)
        have e1 : am_i2b v = sby v := by rw [bt_i2b (by unfold am_inI; omega), show v % 256 = v by omega]
        refine ⟨1, pks S B.length v, ?_, ?_, fun _ => ?_, ?_⟩
        rotate_left
        · unfold enF; rw [if_pos c2, if_pos (by simp; omega)]
        · unfold enF; rw [if_pos c2]; exact pkR_snoc P h0 (by omega) (by omega)
        · exact (fd.rf.up (by decide) _).up (by decide) _
        · (try dsimp only); rw [B_md_putsNumber_4]; (try simp (disch := omega) only [Option.bind_some, if_true, if_false, eq_self, not_true_eq_false, not_false_eq_true, am_w_id, if_pos, if_neg, fu_self, fu_ne, Int.toNat_natCast, p1, n1, e1, m_s_31, e9, show ¬ (1 : Int) = 0 by decide]); rw [B_md_putsNumber_8]; (try simp (disch := omega) only [Option.bind_some, if_true, if_false, eq_self, not_true_eq_false, not_false_eq_true, am_w_id, if_pos, if_neg, fu_self, fu_ne, Int.toNat_natCast, m_gI_32, m_p_32, p1, n1, e1, m_s_31, e9, show ¬ (1 : Int) = 0 by decide]); rw [B_md_putsNumber_20]; (try simp (disch := omega) only [Option.bind_some, if_true, if_false, eq_self, not_true_eq_false, not_false_eq_true, am_w_id, if_pos, if_neg, fu_self, fu_ne, Int.toNat_natCast, p1, n1, e1, m_s_31, e9, show ¬ (1 : Int) = 0 by decide]); rw [B_md_putsNumber_30]; (try simp (disch := omega) only [Option.bind_some, if_true, if_false, eq_self, not_true_eq_false, not_false_eq_true, am_w_id, if_pos, if_neg, fu_self, fu_ne, Int.toNat_natCast, p1, n1, e1, m_s_31, e9, show ¬ (1 : Int) = 0 by decide]); rw [B_md_putsNumber_31]; (try simp (disch := omega) only [Option.bind_some, if_true, if_false, eq_self, not_true_eq_false, not_false_eq_true, am_w_id, if_pos, if_neg, fu_self, fu_ne, Int.toNat_natCast, m_gR_31, m_l_31, m_s_31, m_gI_32, m_p_32, p1, n1, e1, m_s_31, e9, show ¬ (1 : Int) = 0 by decide]); rw [B_md_putsNumber_55]; (try simp (disch := omega) only [Option.bind_some, if_true, if_false, eq_self, not_true_eq_false, not_false_eq_true, am_w_id, if_pos, if_neg, fu_self, fu_ne, Int.toNat_natCast, p1, n1, e1, m_s_31, e9, show ¬ (1 : Int) = 0 by decide]); rw [B_md_putsNumber_56]; (try simp (disch := omega) only [Option.bind_some, if_true, if_false, eq_self, not_true_eq_false, not_false_eq_true, am_w_id, if_pos, if_neg, fu_self, fu_ne, Int.toNat_natCast, m_gI_32, m_p_32, p1, n1, e1, m_s_31, e9, show ¬ (1 : Int) = 0 by decide]); rw [B_md_putsNumber_4]; (try simp (disch := omega) only [Option.bind_some, if_true, if_false, eq_self, not_true_eq_false, not_false_eq_true, am_w_id, if_pos, if_neg, fu_self, fu_ne, Int.toNat_natCast, p1, n1, e1, m_s_31, e9, show ¬ (1 : Int) = 0 by decide]); rw [B_md_putsNumber_76]; (try simp (disch := omega) only [Option.bind_some, if_true, if_false, eq_self, not_true_eq_false, not_false_eq_true, am_w_id, if_pos, if_neg, fu_self, fu_ne, Int.toNat_natCast, p1, n1, e1, m_s_31, e9, show ¬ (1 : Int) = 0 by decide])
      · have hm : am_and v 127 = v % 128 := bt_mask (x := v) (by unfold am_inI; omega) 7 (by omega)
        have hor : am_or (v % 128) 128 = v % 128 + 128 := by
          rw [bt_or (by omega) (by omega) (by omega) (by omega)]
          have := or128 ⟨(v % 128).toNat, by omega⟩
          dsimp only at this
          rw [show (128 : Int).toNat = 128 from rfl, this]
          omega
        have hsh : am_shr v 7 = v / 128 := bt_shr (x := v) (y := 7) (by unfold am_inI; omega) (by omega) (by omega)
        have hs := sby_bd (show 0 ≤ v % 128 + 128 by omega) (show v % 128 + 128 < 256 by omega)
        have e1 : am_i2b (v % 128 + 128) = sby (v % 128 + 128) := by rw [bt_i2b (by unfold am_inI; omega), show (v % 128 + 128) % 256 = v % 128 + 128 by omega]
        have P2 := pkR_snoc P (show 0 ≤ v % 128 + 128 by omega) (show v % 128 + 128 < 256 by omega) (by omega)
        obtain ⟨x, S', e2, o1, o2, o3⟩ := ih (v / 128) _ _ (by omega) (by omega) (Int.ediv_lt_of_lt_mul (by decide) (by rw [← Int.pow_succ]; exact h1)) P2
        have hE : enF (n + 1) v = (v % 128 + 128) :: enF n (v / 128) := by rw [enF, if_neg c2]
        have hl : (B ++ [v % 128 + 128]).length + (enF n (v / 128)).length = B.length + (enF (n + 1) v).length := by rw [hE]; simp; omega
        rw [hl] at o1 o2
        refine ⟨x, S', ?_, o1, fun h => ?_, ((fd.rf.up (by decide) _).up (by decide) _).tr o3⟩
        · refine Eq.trans ?_ e2
          (try dsimp only); rw [B_md_putsNumber_4]; (try simp (disch := omega) only [Option.bind_some, if_true, if_false, eq_self, not_true_eq_false, not_false_eq_true, am_w_id, if_pos, if_neg, fu_self, fu_ne, Int.toNat_natCast, p1, n1, hm, hor, e1, hsh, m_s_31, e9, show ¬ (1 : Int) = 0 by decide]); rw [B_md_putsNumber_8]; (try simp (disch := omega) only [Option.bind_some, if_true, if_false, eq_self, not_true_eq_false, not_false_eq_true, am_w_id, if_pos, if_neg, fu_self, fu_ne, Int.toNat_natCast, m_gI_32, m_p_32, p1, n1, hm, hor, e1, hsh, m_s_31, e9, show ¬ (1 : Int) = 0 by decide]); rw [B_md_putsNumber_20]; (try simp (disch := omega) only [Option.bind_some, if_true, if_false, eq_self, not_true_eq_false, not_false_eq_true, am_w_id, if_pos, if_neg, fu_self, fu_ne, Int.toNat_natCast, p1, n1, hm, hor, e1, hsh, m_s_31, e9, show ¬ (1 : Int) = 0 by decide]); rw [B_md_putsNumber_26]; (try simp (disch := omega) only [Option.bind_some, if_true, if_false, eq_self, not_true_eq_false, not_false_eq_true, am_w_id, if_pos, if_neg, fu_self, fu_ne, Int.toNat_natCast, p1, n1, hm, hor, e1, hsh, m_s_31, e9, show ¬ (1 : Int) = 0 by decide]); rw [B_md_putsNumber_31]; (try simp (disch := omega) only [Option.bind_some, if_true, if_false, eq_self, not_true_eq_false, not_false_eq_true, am_w_id, if_pos, if_neg, fu_self, fu_ne, Int.toNat_natCast, m_gR_31, m_l_31, m_s_31, m_gI_32, m_p_32, p1, n1, hm, hor, e1, hsh, m_s_31, e9, show ¬ (1 : Int) = 0 by decide]); rw [B_md_putsNumber_44]; (try simp (disch := omega) only [Option.bind_some, if_true, if_false, eq_self, not_true_eq_false, not_false_eq_true, am_w_id, if_pos, if_neg, fu_self, fu_ne, Int.toNat_natCast, p1, n1, hm, hor, e1, hsh, m_s_31, e9, show ¬ (1 : Int) = 0 by decide]); rw [B_md_putsNumber_56]; (try simp (disch := omega) only [Option.bind_some, if_true, if_false, eq_self, not_true_eq_false, not_false_eq_true, am_w_id, if_pos, if_neg, fu_self, fu_ne, Int.toNat_natCast, m_gI_32, m_p_32, p1, n1, hm, hor, e1, hsh, m_s_31, e9, show ¬ (1 : Int) = 0 by decide])
        · have := o2 h
          rw [hE]
          rwa [List.append_assoc] at this
theorem md_putsNumber {B : List Int} (P : pkR S B) {v : Int} (h0 : 0 ≤ v) (h1 : v < 2147483648) (d : Nat) : ∃ x S', am_cI d N_md_putsNumber [.inr (.inr (some (m))), .inl (v)] (MH m g S) = some (x, MH m g S') ∧ pkO S B (enc v) x S' := by
  obtain ⟨x, S', e, o⟩ := md_putsLoop (m := m) (g := g) v d 4 v B S h0 h1 (by rw [show (128 : Int) ^ (4 + 1) = 34359738368 from rfl]; omega) P
  refine ⟨x, S', am_cI_of ?_, o⟩
  rw [en_md_putsNumber, B_md_putsNumber_0]
  exact e
theorem pkO.tr {S S1 S2 : Nat → Nat → Int} {B E1 E2 : List Int} {x : Int} (h1 : B.length + E1.length ≤ 400) (f : fd [31, 32] S S1) (o : pkO S1 (B ++ E1) E2 x S2) : pkO S B (E1 ++ E2) x S2 := by
  obtain ⟨o1, o2, o3⟩ := o
  rw [List.length_append] at o1 o2
  refine ⟨?_, fun h => ?_, f.tr o3⟩
  · rw [List.length_append, o1, Nat.add_assoc]
  · rw [List.length_append] at h
    have := o2 (by omega)
    rwa [List.append_assoc] at this
theorem pkO.no {S S' : Nat → Nat → Int} {B E1 E2 : List Int} (h1 : ¬ B.length + E1.length ≤ 400) (f : fd [31, 32] S S') : pkO S B (E1 ++ E2) 0 S' := by
  refine ⟨?_, fun h => ?_, f⟩
  · rw [List.length_append, if_neg (by omega)]
  · rw [List.length_append] at h; omega
theorem pkO.v {S S' : Nat → Nat → Int} {B E : List Int} {x : Int} (o : pkO S B E x S') : (x = 1 ∧ B.length + E.length ≤ 400 ∧ pkR S' (B ++ E)) ∨ (x = 0 ∧ ¬ B.length + E.length ≤ 400) := by
  obtain ⟨o1, o2, _⟩ := o
  by_cases c : B.length + E.length ≤ 400
  · exact Or.inl ⟨by rw [o1, if_pos c], c, o2 c⟩
  · exact Or.inr ⟨by rw [o1, if_neg c], c⟩
theorem stR.frp (N : stR S ws) {S' : Nat → Nat → Int} (F : fd [31, 32] S S') : stR S' ws := by
  unfold stR ndR fsR ndP at *
  simp only [F 13 (by decide), F 14 (by decide), F 15 (by decide), F 16 (by decide), F 17 (by decide), F 18 (by decide), F 19 (by decide), F 20 (by decide), F 21 (by decide), F 22 (by decide), F 23 (by decide)]
  exact N
/-- the arcs of one state, from a node on -/
theorem md_putsKids (hok : ok ws) (H : ml 2402 (S 2) 0 ws) (N : stR S ws) {B : List Int} (P : pkR S B) {j : Nat} (hj : j < nN ws) (s e : Int) (d : Nat) :
    ∃ x S', EV (d + 2) N_md_putsState T_md_putsState_62 [.inr (.inr (some (m))), .inl (s), .inl ((j : Int)), .inl (e), .inl (((j + 1 : Nat) : Int))] [] (MH m g S) = some (some (.inl x), MH m g S') ∧ pkO S B ((kd ws j).flatMap (kN ws j)) x S' := by
  have hN' : nN ws ≤ 1001 := ND_len hok
  have key := am_loop (S := Nat × (List Int × (List Int × (Nat → Nat → Int)))) (F := fun z => EV (d + 2) N_md_putsState T_md_putsState_62 [.inr (.inr (some (m))), .inl (s), .inl ((j : Int)), .inl (e), .inl ((z.1 : Int))] [] (MH m g z.2.2.2))
    (I := fun z => j < z.1 ∧ z.1 ≤ nN ws ∧ B.length + z.2.1.length ≤ 400 ∧ pkR z.2.2.2 (B ++ z.2.1) ∧ fd [31, 32] S z.2.2.2 ∧ z.2.1 ++ z.2.2.1 = (kd ws j).flatMap (kN ws j) ∧ z.2.2.1 = ((List.range' z.1 (nN ws - z.1)).filter (fun c => decide (pr ws c = j))).flatMap (kN ws j))
    (R := fun r => ∃ x S', r = some (some (.inl x), MH m g S') ∧ pkO S B ((kd ws j).flatMap (kN ws j)) x S') (fun z => nN ws - z.1) ?_ (j + 1, [], (kd ws j).flatMap (kN ws j), S)
    ⟨by dsimp only; omega, by dsimp only; omega, by have := P.2.1; simpa using this, by simpa using P, fd.rf, rfl, (congrArg (List.flatMap (kN ws j)) (kd_rg hok.2.1 hj)).symm⟩
  · exact key
  · rintro ⟨c, E1, E2, T⟩ ⟨p0, p1, p2, p3, p4, p5, p6⟩
    dsimp only at p0 p1 p2 p3 p4 p5 p6 ⊢
    have NT := N.frp p4
    have HT : ml 2402 (T 2) 0 ws := by rw [p4 2 (by decide)]; exact H
    obtain ⟨n1, n2, n3, n4⟩ := NT.1
    by_cases c1 : c = nN ws
    · left
      subst c1
      rw [Nat.sub_self] at p6
      have e0 : E2 = [] := by rw [p6]; rfl
      rw [e0, List.append_nil] at p5
      refine ⟨1, T, ?_, ?_, fun _ => ?_, p4⟩
      · (try dsimp only); rw [B_md_putsState_62]; (try simp (disch := omega) only [Option.bind_some, if_true, if_false, eq_self, not_true_eq_false, not_false_eq_true, am_w_id, if_pos, if_neg, fu_self, fu_ne, Int.toNat_natCast, m_gI_13, m_p_13, n1]); rw [B_md_putsState_141]; (try simp (disch := omega) only [Option.bind_some, if_true, if_false, eq_self, not_true_eq_false, not_false_eq_true, am_w_id, if_pos, if_neg, fu_self, fu_ne, Int.toNat_natCast, n1])
      · rw [← p5, if_pos p2]
      · rw [← p5]; exact p3
    · have c2 : c < nN ws := by omega
      obtain ⟨a14, a15, a16, a17⟩ := n3 c c2
      have e9 : (c : Int) + 1 = ((c + 1 : Nat) : Int) := by omega
      rw [show nN ws - c = (nN ws - (c + 1)) + 1 by omega, List.range'_succ, List.filter_cons] at p6
      by_cases c3 : pr ws c = j
      · rw [if_pos (decide_eq_true c3), List.flatMap_cons] at p6
        have hin : c ∈ kd ws j := by
          rw [← kd_rg hok.2.1 hj, List.mem_filter, List.mem_range'_1]
          exact ⟨by omega, decide_eq_true c3⟩
        have b1 := ll_bd hok hj hin
        have b2 := lst_kd hok hj hin
        have b3 := lst_bd hok.1 (pn ws c)
        have b4 := lst_bd hok.1 (pn ws j)
        have hs2 : stt ws c < nS ws := sx_lt (eR_eqv ws) c2 rfl
        have hs3 : nS ws ≤ nN ws := rl_len _
        have a18 := (n4 c c2).1
        have j18 := (n4 j hj).1
        have s20 : T 20 c = (stt ws c : Int) := NT.2.2.2 c c2 rfl
        have aL := fun d => md_lastLetter (m := m) (g := g) hok HT NT c2 (by omega) d
        have c3' : (pr ws c : Int) = (j : Int) := by omega
        obtain ⟨x1, T1, f1, o1⟩ := md_putsNumber (m := m) (g := g) p3 (v := ll ws c) (by omega) (by omega) (d + 1)
        have q1 := o1.2.2
        have hrw : E1 ++ E2 = E1 ++ (enc (ll ws c) ++ (enc (lst ws (pn ws c) - lst ws (pn ws j)) ++ (enc (stt ws c : Int) ++ ((List.range' (c + 1) (nN ws - (c + 1))).filter (fun c => decide (pr ws c = j))).flatMap (kN ws j)))) := by
          rw [p6]; unfold kN; simp only [List.append_assoc]
        rw [hrw] at p5
        rw [← p5]
        rcases o1.v with ⟨v1, v2, v3⟩ | ⟨v1, v2⟩
        · subst v1
          obtain ⟨x2, T2, f2, o2⟩ := md_putsNumber (m := m) (g := g) v3 (v := lst ws (pn ws c) - lst ws (pn ws j)) (by omega) (by omega) (d + 1)
          have q2 := q1.tr o2.2.2
          have c18 : T1 18 c = lst ws (pn ws c) := by rw [q1 18 (by decide)]; exact a18
          have d18 : T1 18 j = lst ws (pn ws j) := by rw [q1 18 (by decide)]; exact j18
          rcases o2.v with ⟨w1, w2, w3⟩ | ⟨w1, w2⟩
          · subst w1
            obtain ⟨x3, T3, f3, o3⟩ := md_putsNumber (m := m) (g := g) w3 (v := (stt ws c : Int)) (by omega) (by omega) (d + 1)
            have q3 := q2.tr o3.2.2
            have t20 : T2 20 c = (stt ws c : Int) := by rw [q2 20 (by decide)]; exact s20
            rcases o3.v with ⟨u1, u2, u3⟩ | ⟨u1, u2⟩
            · right
              subst u1
              refine ⟨(c + 1, E1 ++ (enc (ll ws c) ++ (enc (lst ws (pn ws c) - lst ws (pn ws j)) ++ enc (stt ws c : Int))), ((List.range' (c + 1) (nN ws - (c + 1))).filter (fun c => decide (pr ws c = j))).flatMap (kN ws j), T3), ⟨by dsimp only; omega, by dsimp only; omega, ?_, ?_, p4.tr q3, ?_, rfl⟩, by dsimp only; omega, ?_⟩
              · simp only [List.length_append] at u2 ⊢; omega
              · simpa only [List.append_assoc] using u3
              · dsimp only; simp only [List.append_assoc]
              · (try dsimp only); rw [B_md_putsState_62]; (try simp (disch := omega) only [Option.bind_some, if_true, if_false, eq_self, not_true_eq_false, not_false_eq_true, am_w_id, if_pos, if_neg, fu_self, fu_ne, Int.toNat_natCast, m_gI_13, m_p_13, n1, a17, c3', aL, f1, c18, d18, f2, t20, f3, e9, show ¬ (1 : Int) = 0 by decide]); rw [B_md_putsState_71]; (try simp (disch := omega) only [Option.bind_some, if_true, if_false, eq_self, not_true_eq_false, not_false_eq_true, am_w_id, if_pos, if_neg, fu_self, fu_ne, Int.toNat_natCast, m_gR_17, m_l_17, m_s_17, n1, a17, c3', aL, f1, c18, d18, f2, t20, f3, e9, show ¬ (1 : Int) = 0 by decide]); rw [B_md_putsState_85]; (try simp (disch := omega) only [Option.bind_some, if_true, if_false, eq_self, not_true_eq_false, not_false_eq_true, am_w_id, if_pos, if_neg, fu_self, fu_ne, Int.toNat_natCast, m_O, n1, a17, c3', aL, f1, c18, d18, f2, t20, f3, e9, show ¬ (1 : Int) = 0 by decide]); rw [B_md_putsState_98]; (try simp (disch := omega) only [Option.bind_some, if_true, if_false, eq_self, not_true_eq_false, not_false_eq_true, am_w_id, if_pos, if_neg, fu_self, fu_ne, Int.toNat_natCast, m_gR_18, m_l_18, m_s_18, m_O, n1, a17, c3', aL, f1, c18, d18, f2, t20, f3, e9, show ¬ (1 : Int) = 0 by decide]); rw [B_md_putsState_119]; (try simp (disch := omega) only [Option.bind_some, if_true, if_false, eq_self, not_true_eq_false, not_false_eq_true, am_w_id, if_pos, if_neg, fu_self, fu_ne, Int.toNat_natCast, m_gR_20, m_l_20, m_s_20, m_O, n1, a17, c3', aL, f1, c18, d18, f2, t20, f3, e9, show ¬ (1 : Int) = 0 by decide]); rw [B_md_putsState_135]; (try simp (disch := omega) only [Option.bind_some, if_true, if_false, eq_self, not_true_eq_false, not_false_eq_true, am_w_id, if_pos, if_neg, fu_self, fu_ne, Int.toNat_natCast, n1, a17, c3', aL, f1, c18, d18, f2, t20, f3, e9, show ¬ (1 : Int) = 0 by decide])
            · left
              subst u1
              refine ⟨0, T3, ?_, ?_, fun h => ?_, p4.tr q3⟩
              · (try dsimp only); rw [B_md_putsState_62]; (try simp (disch := omega) only [Option.bind_some, if_true, if_false, eq_self, not_true_eq_false, not_false_eq_true, am_w_id, if_pos, if_neg, fu_self, fu_ne, Int.toNat_natCast, m_gI_13, m_p_13, n1, a17, c3', aL, f1, c18, d18, f2, t20, f3, e9, show ¬ (1 : Int) = 0 by decide]); rw [B_md_putsState_71]; (try simp (disch := omega) only [Option.bind_some, if_true, if_false, eq_self, not_true_eq_false, not_false_eq_true, am_w_id, if_pos, if_neg, fu_self, fu_ne, Int.toNat_natCast, m_gR_17, m_l_17, m_s_17, n1, a17, c3', aL, f1, c18, d18, f2, t20, f3, e9, show ¬ (1 : Int) = 0 by decide]); rw [B_md_putsState_85]; (try simp (disch := omega) only [Option.bind_some, if_true, if_false, eq_self, not_true_eq_false, not_false_eq_true, am_w_id, if_pos, if_neg, fu_self, fu_ne, Int.toNat_natCast, m_O, n1, a17, c3', aL, f1, c18, d18, f2, t20, f3, e9, show ¬ (1 : Int) = 0 by decide]); rw [B_md_putsState_98]; (try simp (disch := omega) only [Option.bind_some, if_true, if_false, eq_self, not_true_eq_false, not_false_eq_true, am_w_id, if_pos, if_neg, fu_self, fu_ne, Int.toNat_natCast, m_gR_18, m_l_18, m_s_18, m_O, n1, a17, c3', aL, f1, c18, d18, f2, t20, f3, e9, show ¬ (1 : Int) = 0 by decide]); rw [B_md_putsState_119]; (try simp (disch := omega) only [Option.bind_some, if_true, if_false, eq_self, not_true_eq_false, not_false_eq_true, am_w_id, if_pos, if_neg, fu_self, fu_ne, Int.toNat_natCast, m_gR_20, m_l_20, m_s_20, m_O, n1, a17, c3', aL, f1, c18, d18, f2, t20, f3, e9, show ¬ (1 : Int) = 0 by decide]); rw [B_md_putsState_133]; (try simp (disch := omega) only [Option.bind_some, if_true, if_false, eq_self, not_true_eq_false, not_false_eq_true, am_w_id, if_pos, if_neg, fu_self, fu_ne, Int.toNat_natCast, n1, a17, c3', aL, f1, c18, d18, f2, t20, f3, e9, show ¬ (1 : Int) = 0 by decide])
              · simp only [List.length_append] at u2 ⊢; rw [if_neg (by omega)]
              · simp only [List.length_append] at u2 h; omega
          · left
            subst w1
            refine ⟨0, T2, ?_, ?_, fun h => ?_, p4.tr q2⟩
            · (try dsimp only); rw [B_md_putsState_62]; (try simp (disch := omega) only [Option.bind_some, if_true, if_false, eq_self, not_true_eq_false, not_false_eq_true, am_w_id, if_pos, if_neg, fu_self, fu_ne, Int.toNat_natCast, m_gI_13, m_p_13, n1, a17, c3', aL, f1, c18, d18, f2, e9, show ¬ (1 : Int) = 0 by decide]); rw [B_md_putsState_71]; (try simp (disch := omega) only [Option.bind_some, if_true, if_false, eq_self, not_true_eq_false, not_false_eq_true, am_w_id, if_pos, if_neg, fu_self, fu_ne, Int.toNat_natCast, m_gR_17, m_l_17, m_s_17, n1, a17, c3', aL, f1, c18, d18, f2, e9, show ¬ (1 : Int) = 0 by decide]); rw [B_md_putsState_85]; (try simp (disch := omega) only [Option.bind_some, if_true, if_false, eq_self, not_true_eq_false, not_false_eq_true, am_w_id, if_pos, if_neg, fu_self, fu_ne, Int.toNat_natCast, m_O, n1, a17, c3', aL, f1, c18, d18, f2, e9, show ¬ (1 : Int) = 0 by decide]); rw [B_md_putsState_98]; (try simp (disch := omega) only [Option.bind_some, if_true, if_false, eq_self, not_true_eq_false, not_false_eq_true, am_w_id, if_pos, if_neg, fu_self, fu_ne, Int.toNat_natCast, m_gR_18, m_l_18, m_s_18, m_O, n1, a17, c3', aL, f1, c18, d18, f2, e9, show ¬ (1 : Int) = 0 by decide]); rw [B_md_putsState_133]; (try simp (disch := omega) only [Option.bind_some, if_true, if_false, eq_self, not_true_eq_false, not_false_eq_true, am_w_id, if_pos, if_neg, fu_self, fu_ne, Int.toNat_natCast, n1, a17, c3', aL, f1, c18, d18, f2, e9, show ¬ (1 : Int) = 0 by decide])
            · simp only [List.length_append] at w2 ⊢; rw [if_neg (by omega)]
            · simp only [List.length_append] at w2 h; omega
        · left
          subst v1
          refine ⟨0, T1, ?_, ?_, fun h => ?_, p4.tr q1⟩
          · (try dsimp only); rw [B_md_putsState_62]; (try simp (disch := omega) only [Option.bind_some, if_true, if_false, eq_self, not_true_eq_false, not_false_eq_true, am_w_id, if_pos, if_neg, fu_self, fu_ne, Int.toNat_natCast, m_gI_13, m_p_13, n1, a17, c3', aL, f1, e9, show ¬ (1 : Int) = 0 by decide]); rw [B_md_putsState_71]; (try simp (disch := omega) only [Option.bind_some, if_true, if_false, eq_self, not_true_eq_false, not_false_eq_true, am_w_id, if_pos, if_neg, fu_self, fu_ne, Int.toNat_natCast, m_gR_17, m_l_17, m_s_17, n1, a17, c3', aL, f1, e9, show ¬ (1 : Int) = 0 by decide]); rw [B_md_putsState_85]; (try simp (disch := omega) only [Option.bind_some, if_true, if_false, eq_self, not_true_eq_false, not_false_eq_true, am_w_id, if_pos, if_neg, fu_self, fu_ne, Int.toNat_natCast, m_O, n1, a17, c3', aL, f1, e9, show ¬ (1 : Int) = 0 by decide]); rw [B_md_putsState_133]; (try simp (disch := omega) only [Option.bind_some, if_true, if_false, eq_self, not_true_eq_false, not_false_eq_true, am_w_id, if_pos, if_neg, fu_self, fu_ne, Int.toNat_natCast, n1, a17, c3', aL, f1, e9, show ¬ (1 : Int) = 0 by decide])
          · simp only [List.length_append] at v2 ⊢; rw [if_neg (by omega)]
          · simp only [List.length_append] at v2 h; omega
      · rw [if_neg (fun h => c3 (of_decide_eq_true h))] at p6
        right
        have c3' : ¬ (pr ws c : Int) = (j : Int) := by omega
        refine ⟨(c + 1, E1, E2, T), ⟨by dsimp only; omega, by dsimp only; omega, p2, p3, p4, p5, p6⟩, by dsimp only; omega, ?_⟩
        (try dsimp only); rw [B_md_putsState_62]; (try simp (disch := omega) only [Option.bind_some, if_true, if_false, eq_self, not_true_eq_false, not_false_eq_true, am_w_id, if_pos, if_neg, fu_self, fu_ne, Int.toNat_natCast, m_gI_13, m_p_13, n1, a17, c3', e9]); rw [B_md_putsState_71]; (try simp (disch := omega) only [Option.bind_some, if_true, if_false, eq_self, not_true_eq_false, not_false_eq_true, am_w_id, if_pos, if_neg, fu_self, fu_ne, Int.toNat_natCast, m_gR_17, m_l_17, m_s_17, n1, a17, c3', e9]); rw [B_md_putsState_82]; (try simp (disch := omega) only [Option.bind_some, if_true, if_false, eq_self, not_true_eq_false, not_false_eq_true, am_w_id, if_pos, if_neg, fu_self, fu_ne, Int.toNat_natCast, n1, a17, c3', e9]); rw [B_md_putsState_135]; (try simp (disch := omega) only [Option.bind_some, if_true, if_false, eq_self, not_true_eq_false, not_false_eq_true, am_w_id, if_pos, if_neg, fu_self, fu_ne, Int.toNat_natCast, n1, a17, c3', e9])
theorem md_putsState (hok : ok ws) (H : ml 2402 (S 2) 0 ws) (N : stR S ws) {B : List Int} (P : pkR S B) {s : Nat} (hs : s < nS ws) (d : Nat) :
    ∃ x S', am_cI (d + 2) N_md_putsState [.inr (.inr (some (m))), .inl ((s : Int))] (MH m g S) = some (x, MH m g S') ∧ pkO S B (stN ws (fn ws s)) x S' := by
  have hN' : nN ws ≤ 1001 := ND_len hok
  obtain ⟨fl, fg⟩ := fst_lt hs
  have g3 : S 22 s = (fn ws s : Int) := N.2.2.1 _ _ fg
  have hsn : s < 1001 := by
    have : nS ws ≤ nN ws := rl_len _
    omega
  have a1 := fun d => md_childrenOf (m := m) (g := g) hok N fl d
  have a2 := fun d => md_endsWith (m := m) (g := g) hok H N fl d
  have hk : (kd ws (fn ws s)).length ≤ nN ws := by
    unfold kd
    exact Nat.le_trans (List.length_filter_le _ _) (by rw [List.length_range]; exact Nat.le_refl _)
  generalize fn ws s = j at *
  have e9 : (j : Int) + 1 = ((j + 1 : Nat) : Int) := by omega
  unfold stN stH
  by_cases c : en ws (pn ws j) = -2
  · rw [if_pos c, if_pos c, Int.add_zero, List.append_nil]
    obtain ⟨x1, T1, f1, o1⟩ := md_putsNumber (m := m) (g := g) P (v := 2 * ((kd ws j).length : Int)) (by omega) (by omega) (d + 1)
    have q1 := o1.2.2
    rw [c] at a2
    rcases o1.v with ⟨v1, v2, v3⟩ | ⟨v1, v2⟩
    · subst v1
      obtain ⟨x, S', f2, o2⟩ := md_putsKids (m := m) (g := g) hok (by rw [q1 2 (by decide)]; exact H) (N.frp q1) v3 fl (s : Int) (-2) d
      refine ⟨x, S', am_cI_of ?_, pkO.tr v2 q1 o2⟩
      refine Eq.trans ?_ f2
      (try dsimp only); rw [en_md_putsState]; (try simp (disch := omega) only [Option.bind_some, if_true, if_false, eq_self, not_true_eq_false, not_false_eq_true, am_w_id, if_pos, if_neg, fu_self, fu_ne, Int.toNat_natCast, g3, a1, a2, Int.add_zero, f1, e9, show ¬ (1 : Int) = 0 by decide]); rw [B_md_putsState_0]; (try simp (disch := omega) only [Option.bind_some, if_true, if_false, eq_self, not_true_eq_false, not_false_eq_true, am_w_id, if_pos, if_neg, fu_self, fu_ne, Int.toNat_natCast, m_gR_22, m_l_22, m_s_22, m_O, g3, a1, a2, Int.add_zero, f1, e9, show ¬ (1 : Int) = 0 by decide]); rw [B_md_putsState_27]; (try simp (disch := omega) only [Option.bind_some, if_true, if_false, eq_self, not_true_eq_false, not_false_eq_true, am_w_id, if_pos, if_neg, fu_self, fu_ne, Int.toNat_natCast, g3, a1, a2, Int.add_zero, f1, e9, show ¬ (1 : Int) = 0 by decide]); rw [B_md_putsState_32]; (try simp (disch := omega) only [Option.bind_some, if_true, if_false, eq_self, not_true_eq_false, not_false_eq_true, am_w_id, if_pos, if_neg, fu_self, fu_ne, Int.toNat_natCast, m_O, g3, a1, a2, Int.add_zero, f1, e9, show ¬ (1 : Int) = 0 by decide]); rw [B_md_putsState_41]; (try simp (disch := omega) only [Option.bind_some, if_true, if_false, eq_self, not_true_eq_false, not_false_eq_true, am_w_id, if_pos, if_neg, fu_self, fu_ne, Int.toNat_natCast, g3, a1, a2, Int.add_zero, f1, e9, show ¬ (1 : Int) = 0 by decide]); rw [B_md_putsState_57]; (try simp (disch := omega) only [Option.bind_some, if_true, if_false, eq_self, not_true_eq_false, not_false_eq_true, am_w_id, if_pos, if_neg, fu_self, fu_ne, Int.toNat_natCast, g3, a1, a2, Int.add_zero, f1, e9, show ¬ (1 : Int) = 0 by decide])
    · subst v1
      refine ⟨0, T1, am_cI_of ?_, pkO.no v2 q1⟩
      (try dsimp only); rw [en_md_putsState]; (try simp (disch := omega) only [Option.bind_some, if_true, if_false, eq_self, not_true_eq_false, not_false_eq_true, am_w_id, if_pos, if_neg, fu_self, fu_ne, Int.toNat_natCast, g3, a1, a2, Int.add_zero, f1, e9, show ¬ (1 : Int) = 0 by decide]); rw [B_md_putsState_0]; (try simp (disch := omega) only [Option.bind_some, if_true, if_false, eq_self, not_true_eq_false, not_false_eq_true, am_w_id, if_pos, if_neg, fu_self, fu_ne, Int.toNat_natCast, m_gR_22, m_l_22, m_s_22, m_O, g3, a1, a2, Int.add_zero, f1, e9, show ¬ (1 : Int) = 0 by decide]); rw [B_md_putsState_27]; (try simp (disch := omega) only [Option.bind_some, if_true, if_false, eq_self, not_true_eq_false, not_false_eq_true, am_w_id, if_pos, if_neg, fu_self, fu_ne, Int.toNat_natCast, g3, a1, a2, Int.add_zero, f1, e9, show ¬ (1 : Int) = 0 by decide]); rw [B_md_putsState_32]; (try simp (disch := omega) only [Option.bind_some, if_true, if_false, eq_self, not_true_eq_false, not_false_eq_true, am_w_id, if_pos, if_neg, fu_self, fu_ne, Int.toNat_natCast, m_O, g3, a1, a2, Int.add_zero, f1, e9, show ¬ (1 : Int) = 0 by decide]); rw [B_md_putsState_39]; (try simp (disch := omega) only [Option.bind_some, if_true, if_false, eq_self, not_true_eq_false, not_false_eq_true, am_w_id, if_pos, if_neg, fu_self, fu_ne, Int.toNat_natCast, g3, a1, a2, Int.add_zero, f1, e9, show ¬ (1 : Int) = 0 by decide])
  · rw [if_neg c, if_neg c]
    have be := en_bd hok c
    obtain ⟨x1, T1, f1, o1⟩ := md_putsNumber (m := m) (g := g) P (v := 2 * ((kd ws j).length : Int) + 1) (by omega) (by omega) (d + 1)
    have q1 := o1.2.2
    rw [List.append_assoc]
    rcases o1.v with ⟨v1, v2, v3⟩ | ⟨v1, v2⟩
    · subst v1
      obtain ⟨x2, T2, f2, o2⟩ := md_putsNumber (m := m) (g := g) v3 (v := en ws (pn ws j)) (by omega) (by omega) (d + 1)
      have q2 := q1.tr o2.2.2
      rcases o2.v with ⟨w1, w2, w3⟩ | ⟨w1, w2⟩
      · subst w1
        obtain ⟨x, S', f3, o3⟩ := md_putsKids (m := m) (g := g) hok (by rw [q2 2 (by decide)]; exact H) (N.frp q2) w3 fl (s : Int) (en ws (pn ws j)) d
        refine ⟨x, S', am_cI_of ?_, pkO.tr v2 q1 (pkO.tr w2 o2.2.2 o3)⟩
        refine Eq.trans ?_ f3
        (try dsimp only); rw [en_md_putsState]; (try simp (disch := omega) only [Option.bind_some, if_true, if_false, eq_self, not_true_eq_false, not_false_eq_true, am_w_id, if_pos, if_neg, fu_self, fu_ne, Int.toNat_natCast, g3, a1, a2, c, f1, f2, e9, show ¬ (1 : Int) = 0 by decide]); rw [B_md_putsState_0]; (try simp (disch := omega) only [Option.bind_some, if_true, if_false, eq_self, not_true_eq_false, not_false_eq_true, am_w_id, if_pos, if_neg, fu_self, fu_ne, Int.toNat_natCast, m_gR_22, m_l_22, m_s_22, m_O, g3, a1, a2, c, f1, f2, e9, show ¬ (1 : Int) = 0 by decide]); rw [B_md_putsState_31]; (try simp (disch := omega) only [Option.bind_some, if_true, if_false, eq_self, not_true_eq_false, not_false_eq_true, am_w_id, if_pos, if_neg, fu_self, fu_ne, Int.toNat_natCast, g3, a1, a2, c, f1, f2, e9, show ¬ (1 : Int) = 0 by decide]); rw [B_md_putsState_32]; (try simp (disch := omega) only [Option.bind_some, if_true, if_false, eq_self, not_true_eq_false, not_false_eq_true, am_w_id, if_pos, if_neg, fu_self, fu_ne, Int.toNat_natCast, m_O, g3, a1, a2, c, f1, f2, e9, show ¬ (1 : Int) = 0 by decide]); rw [B_md_putsState_41]; (try simp (disch := omega) only [Option.bind_some, if_true, if_false, eq_self, not_true_eq_false, not_false_eq_true, am_w_id, if_pos, if_neg, fu_self, fu_ne, Int.toNat_natCast, g3, a1, a2, c, f1, f2, e9, show ¬ (1 : Int) = 0 by decide]); rw [B_md_putsState_47]; (try simp (disch := omega) only [Option.bind_some, if_true, if_false, eq_self, not_true_eq_false, not_false_eq_true, am_w_id, if_pos, if_neg, fu_self, fu_ne, Int.toNat_natCast, m_O, g3, a1, a2, c, f1, f2, e9, show ¬ (1 : Int) = 0 by decide]); rw [B_md_putsState_57]; (try simp (disch := omega) only [Option.bind_some, if_true, if_false, eq_self, not_true_eq_false, not_false_eq_true, am_w_id, if_pos, if_neg, fu_self, fu_ne, Int.toNat_natCast, g3, a1, a2, c, f1, f2, e9, show ¬ (1 : Int) = 0 by decide])
      · subst w1
        refine ⟨0, T2, am_cI_of ?_, pkO.tr v2 q1 (pkO.no w2 o2.2.2)⟩
        (try dsimp only); rw [en_md_putsState]; (try simp (disch := omega) only [Option.bind_some, if_true, if_false, eq_self, not_true_eq_false, not_false_eq_true, am_w_id, if_pos, if_neg, fu_self, fu_ne, Int.toNat_natCast, g3, a1, a2, c, f1, f2, e9, show ¬ (1 : Int) = 0 by decide]); rw [B_md_putsState_0]; (try simp (disch := omega) only [Option.bind_some, if_true, if_false, eq_self, not_true_eq_false, not_false_eq_true, am_w_id, if_pos, if_neg, fu_self, fu_ne, Int.toNat_natCast, m_gR_22, m_l_22, m_s_22, m_O, g3, a1, a2, c, f1, f2, e9, show ¬ (1 : Int) = 0 by decide]); rw [B_md_putsState_31]; (try simp (disch := omega) only [Option.bind_some, if_true, if_false, eq_self, not_true_eq_false, not_false_eq_true, am_w_id, if_pos, if_neg, fu_self, fu_ne, Int.toNat_natCast, g3, a1, a2, c, f1, f2, e9, show ¬ (1 : Int) = 0 by decide]); rw [B_md_putsState_32]; (try simp (disch := omega) only [Option.bind_some, if_true, if_false, eq_self, not_true_eq_false, not_false_eq_true, am_w_id, if_pos, if_neg, fu_self, fu_ne, Int.toNat_natCast, m_O, g3, a1, a2, c, f1, f2, e9, show ¬ (1 : Int) = 0 by decide]); rw [B_md_putsState_41]; (try simp (disch := omega) only [Option.bind_some, if_true, if_false, eq_self, not_true_eq_false, not_false_eq_true, am_w_id, if_pos, if_neg, fu_self, fu_ne, Int.toNat_natCast, g3, a1, a2, c, f1, f2, e9, show ¬ (1 : Int) = 0 by decide]); rw [B_md_putsState_47]; (try simp (disch := omega) only [Option.bind_some, if_true, if_false, eq_self, not_true_eq_false, not_false_eq_true, am_w_id, if_pos, if_neg, fu_self, fu_ne, Int.toNat_natCast, m_O, g3, a1, a2, c, f1, f2, e9, show ¬ (1 : Int) = 0 by decide]); rw [B_md_putsState_55]; (try simp (disch := omega) only [Option.bind_some, if_true, if_false, eq_self, not_true_eq_false, not_false_eq_true, am_w_id, if_pos, if_neg, fu_self, fu_ne, Int.toNat_natCast, g3, a1, a2, c, f1, f2, e9, show ¬ (1 : Int) = 0 by decide])
    · subst v1
      refine ⟨0, T1, am_cI_of ?_, pkO.no v2 q1⟩
      (try dsimp only); rw [en_md_putsState]; (try simp (disch := omega) only [Option.bind_some, if_true, if_false, eq_self, not_true_eq_false, not_false_eq_true, am_w_id, if_pos, if_neg, fu_self, fu_ne, Int.toNat_natCast, g3, a1, a2, c, f1, e9, show ¬ (1 : Int) = 0 by decide]); rw [B_md_putsState_0]; (try simp (disch := omega) only [Option.bind_some, if_true, if_false, eq_self, not_true_eq_false, not_false_eq_true, am_w_id, if_pos, if_neg, fu_self, fu_ne, Int.toNat_natCast, m_gR_22, m_l_22, m_s_22, m_O, g3, a1, a2, c, f1, e9, show ¬ (1 : Int) = 0 by decide]); rw [B_md_putsState_31]; (try simp (disch := omega) only [Option.bind_some, if_true, if_false, eq_self, not_true_eq_false, not_false_eq_true, am_w_id, if_pos, if_neg, fu_self, fu_ne, Int.toNat_natCast, g3, a1, a2, c, f1, e9, show ¬ (1 : Int) = 0 by decide]); rw [B_md_putsState_32]; (try simp (disch := omega) only [Option.bind_some, if_true, if_false, eq_self, not_true_eq_false, not_false_eq_true, am_w_id, if_pos, if_neg, fu_self, fu_ne, Int.toNat_natCast, m_O, g3, a1, a2, c, f1, e9, show ¬ (1 : Int) = 0 by decide]); rw [B_md_putsState_39]; (try simp (disch := omega) only [Option.bind_some, if_true, if_false, eq_self, not_true_eq_false, not_false_eq_true, am_w_id, if_pos, if_neg, fu_self, fu_ne, Int.toNat_natCast, g3, a1, a2, c, f1, e9, show ¬ (1 : Int) = 0 by decide])
theorem md_packsLoop (hok : ok ws) (H : ml 2402 (S 2) 0 ws) (N : stR S ws) {B : List Int} (P : pkR S B) (d : Nat) :
    ∃ x S', EV (d + 3) N_md_packs T_md_packs_37 [.inr (.inr (some (m))), .inl (((0 : Nat) : Int))] [] (MH m g S) = some (some (.inl x), MH m g S') ∧ pkO S B ((fst ws).flatMap (stN ws)) x S' := by
  have hN' : nN ws ≤ 1001 := ND_len hok
  have hS3 : nS ws ≤ nN ws := rl_len _
  refine am_loop (S := Nat × (List Int × (List Int × (Nat → Nat → Int)))) (F := fun z => EV (d + 3) N_md_packs T_md_packs_37 [.inr (.inr (some (m))), .inl ((z.1 : Int))] [] (MH m g z.2.2.2))
    (I := fun z => z.1 ≤ nS ws ∧ B.length + z.2.1.length ≤ 400 ∧ pkR z.2.2.2 (B ++ z.2.1) ∧ fd [31, 32] S z.2.2.2 ∧ z.2.1 ++ z.2.2.1 = (fst ws).flatMap (stN ws) ∧ z.2.2.1 = ((fst ws).drop z.1).flatMap (stN ws))
    (R := fun r => ∃ x S', r = some (some (.inl x), MH m g S') ∧ pkO S B ((fst ws).flatMap (stN ws)) x S') (fun z => nS ws - z.1) ?_ (0, [], (fst ws).flatMap (stN ws), S)
    ⟨Nat.zero_le _, by have := P.2.1; simpa using this, by simpa using P, fd.rf, rfl, rfl⟩
  rintro ⟨c, E1, E2, T⟩ ⟨p1, p2, p3, p4, p5, p6⟩
  dsimp only at p1 p2 p3 p4 p5 p6 ⊢
  have NT := N.frp p4
  have HT : ml 2402 (T 2) 0 ws := by rw [p4 2 (by decide)]; exact H
  have h21 := NT.2.1
  have hS : ((rl (eR ws) tt (nN ws)).length : Int) = (nS ws : Int) := rfl
  rw [hS] at h21
  by_cases c1 : c = nS ws
  · left
    subst c1
    have e0 : E2 = [] := by rw [p6, show (fst ws).drop (nS ws) = [] from List.drop_length]; rfl
    rw [e0, List.append_nil] at p5
    refine ⟨1, T, ?_, ?_, fun _ => ?_, p4⟩
    · (try dsimp only); rw [B_md_packs_37]; (try simp (disch := omega) only [Option.bind_some, if_true, if_false, eq_self, not_true_eq_false, not_false_eq_true, am_w_id, if_pos, if_neg, fu_self, fu_ne, Int.toNat_natCast, m_gI_21, m_p_21, h21]); rw [B_md_packs_61]; (try simp (disch := omega) only [Option.bind_some, if_true, if_false, eq_self, not_true_eq_false, not_false_eq_true, am_w_id, if_pos, if_neg, fu_self, fu_ne, Int.toNat_natCast, h21])
    · rw [← p5, if_pos p2]
    · rw [← p5]; exact p3
  · have c2 : c < nS ws := by omega
    obtain ⟨fl, fg⟩ := fst_lt c2
    have hd : (fst ws).drop c = fn ws c :: (fst ws).drop (c + 1) := by
      rw [List.drop_eq_getElem_cons c2]
      congr 1
      rw [List.getElem?_eq_getElem c2] at fg
      injection fg
    rw [hd, List.flatMap_cons] at p6
    have e9 : (c : Int) + 1 = ((c + 1 : Nat) : Int) := by omega
    obtain ⟨x1, T1, f1, o1⟩ := md_putsState (m := m) (g := g) hok HT NT p3 c2 d
    have q1 := o1.2.2
    rw [p6] at p5
    rw [← p5]
    rcases o1.v with ⟨v1, v2, v3⟩ | ⟨v1, v2⟩
    · right
      subst v1
      refine ⟨(c + 1, E1 ++ stN ws (fn ws c), ((fst ws).drop (c + 1)).flatMap (stN ws), T1), ⟨by dsimp only; omega, ?_, ?_, p4.tr q1, ?_, rfl⟩, by dsimp only; omega, ?_⟩
      · simp only [List.length_append] at v2 ⊢; omega
      · simpa only [List.append_assoc] using v3
      · dsimp only; simp only [List.append_assoc]
      · (try dsimp only); rw [B_md_packs_37]; (try simp (disch := omega) only [Option.bind_some, if_true, if_false, eq_self, not_true_eq_false, not_false_eq_true, am_w_id, if_pos, if_neg, fu_self, fu_ne, Int.toNat_natCast, m_gI_21, m_p_21, h21, f1, e9, show ¬ (1 : Int) = 0 by decide]); rw [B_md_packs_45]; (try simp (disch := omega) only [Option.bind_some, if_true, if_false, eq_self, not_true_eq_false, not_false_eq_true, am_w_id, if_pos, if_neg, fu_self, fu_ne, Int.toNat_natCast, m_O, h21, f1, e9, show ¬ (1 : Int) = 0 by decide]); rw [B_md_packs_55]; (try simp (disch := omega) only [Option.bind_some, if_true, if_false, eq_self, not_true_eq_false, not_false_eq_true, am_w_id, if_pos, if_neg, fu_self, fu_ne, Int.toNat_natCast, h21, f1, e9, show ¬ (1 : Int) = 0 by decide])
    · left
      subst v1
      refine ⟨0, T1, ?_, ?_, fun h => ?_, p4.tr q1⟩
      · (try dsimp only); rw [B_md_packs_37]; (try simp (disch := omega) only [Option.bind_some, if_true, if_false, eq_self, not_true_eq_false, not_false_eq_true, am_w_id, if_pos, if_neg, fu_self, fu_ne, Int.toNat_natCast, m_gI_21, m_p_21, h21, f1, e9, show ¬ (1 : Int) = 0 by decide]); rw [B_md_packs_45]; (try simp (disch := omega) only [Option.bind_some, if_true, if_false, eq_self, not_true_eq_false, not_false_eq_true, am_w_id, if_pos, if_neg, fu_self, fu_ne, Int.toNat_natCast, m_O, h21, f1, e9, show ¬ (1 : Int) = 0 by decide]); rw [B_md_packs_53]; (try simp (disch := omega) only [Option.bind_some, if_true, if_false, eq_self, not_true_eq_false, not_false_eq_true, am_w_id, if_pos, if_neg, fu_self, fu_ne, Int.toNat_natCast, h21, f1, e9, show ¬ (1 : Int) = 0 by decide])
      · simp only [List.length_append] at v2 ⊢; rw [if_neg (by omega)]
      · simp only [List.length_append] at v2 h; omega
theorem md_packs (hok : ok ws) (H : ml 2402 (S 2) 0 ws) (d : Nat) :
    ∃ x S', am_cI (d + 5) N_md_packs [.inr (.inr (some (m)))] (MH m g S) = some (x, MH m g S') ∧ x = (if (pkE ws).length ≤ 400 then 1 else 0) ∧ ((pkE ws).length ≤ 400 → pkR S' (pkE ws)) ∧ fd [13, 14, 15, 16, 17, 18, 19, 20, 21, 22, 23, 31, 32] S S' := by
  have hN' : nN ws ≤ 1001 := ND_len hok
  have hS3 : nS ws ≤ nN ws := rl_len _
  obtain ⟨T, e, t1, t2⟩ := md_laysStates (m := m) (g := g) hok H (d + 0)
  have hS : ((rl (eR ws) tt (nN ws)).length : Int) = (nS ws : Int) := rfl
  have F0 : fd [31, 32] T (am_fu T 32 (fun _ => 0)) := fd.rf.up (by decide) _
  have N0 := t1.frp F0
  have h21 : (am_fu T 32 (fun _ => 0)) 21 0 = (nS ws : Int) := N0.2.1
  have P0 : pkR (am_fu T 32 (fun _ => 0)) [] := ⟨by rw [fu_self]; rfl, by simp, fun x hx => by simp at hx, fun i hi => by simp at hi⟩
  have t21 : T 21 0 = (nS ws : Int) := t1.2.1
  have H0 : ml 2402 ((am_fu T 32 (fun _ => 0)) 2) 0 ws := by rw [F0 2 (by decide), t2 2 (by decide)]; exact H
  have n18 : (am_fu T 32 (fun _ => 0)) 18 0 = lst ws [] := by
    have := (N0.1.2.2.2 0 nN_pos).1
    rwa [pn0] at this
  obtain ⟨U, hU⟩ : ∃ U, U = am_fu T 32 (fun _ => 0) := ⟨_, rfl⟩
  rw [← hU] at F0 N0 h21 P0 H0 n18
  have F1 := (t2.wide (l' := [13, 14, 15, 16, 17, 18, 19, 20, 21, 22, 23, 31, 32]) (by decide)).tr (F0.wide (by decide))
  have bl := lst_bd hok.1 []
  obtain ⟨x1, T1, f1, o1⟩ := md_putsNumber (m := m) (g := g) P0 (v := (nS ws : Int)) (by omega) (by omega) (d + 4)
  have q1 := o1.2.2
  have G1 := F1.tr (q1.wide (by decide))
  rcases o1.v with ⟨v1, v2, v3⟩ | ⟨v1, v2⟩
  · subst v1
    obtain ⟨x2, T2, f2, o2⟩ := md_putsNumber (m := m) (g := g) v3 (v := lst ws []) (by omega) (by omega) (d + 4)
    have q2 := q1.tr o2.2.2
    have m18 : T1 18 0 = lst ws [] := by rw [q1 18 (by decide)]; exact n18
    have G2 := F1.tr (q2.wide (by decide))
    rcases o2.v with ⟨w1, w2, w3⟩ | ⟨w1, w2⟩
    · subst w1
      obtain ⟨x3, T3, f3, o3⟩ := md_packsLoop (m := m) (g := g) hok (by rw [q2 2 (by decide)]; exact H0) (N0.frp q2) w3 (d + 2)
      have o := pkO.tr v2 q1 (pkO.tr w2 o2.2.2 o3)
      have hz : ([] : List Int).length + (enc (nS ws : Int) ++ (enc (lst ws []) ++ (fst ws).flatMap (stN ws))).length = (pkE ws).length := by rw [List.length_nil, Nat.zero_add]; rfl
      obtain ⟨r1, r2, r3⟩ := o
      rw [hz] at r1 r2
      refine ⟨x3, T3, am_cI_of ?_, r1, r2, F1.tr (r3.wide (by decide))⟩
      refine Eq.trans ?_ f3
      (try dsimp only); rw [en_md_packs]; (try simp (disch := omega) only [Option.bind_some, if_true, if_false, eq_self, not_true_eq_false, not_false_eq_true, am_w_id, if_pos, if_neg, fu_self, fu_ne, Int.toNat_natCast, e, h21, hU.symm, f1, Int.toNat_zero, m18, f2, show ¬ (1 : Int) = 0 by decide]); rw [B_md_packs_0]; (try simp (disch := omega) only [Option.bind_some, if_true, if_false, eq_self, not_true_eq_false, not_false_eq_true, am_w_id, if_pos, if_neg, fu_self, fu_ne, Int.toNat_natCast, m_gI_32, m_p_32, m_gI_21, m_p_21, m_O, e, h21, hU.symm, f1, Int.toNat_zero, m18, f2, show ¬ (1 : Int) = 0 by decide]); rw [B_md_packs_20]; (try simp (disch := omega) only [Option.bind_some, if_true, if_false, eq_self, not_true_eq_false, not_false_eq_true, am_w_id, if_pos, if_neg, fu_self, fu_ne, Int.toNat_natCast, m_gR_18, m_l_18, m_s_18, m_O, e, h21, hU.symm, f1, Int.toNat_zero, m18, f2, show ¬ (1 : Int) = 0 by decide]); rw [B_md_packs_35]; (try simp (disch := omega) only [Option.bind_some, if_true, if_false, eq_self, not_true_eq_false, not_false_eq_true, am_w_id, if_pos, if_neg, fu_self, fu_ne, Int.toNat_natCast, e, h21, hU.symm, f1, Int.toNat_zero, m18, f2, show ¬ (1 : Int) = 0 by decide])
      rfl
    · subst w1
      have o := pkO.tr v2 q1 (pkO.no (E2 := (fst ws).flatMap (stN ws)) w2 o2.2.2)
      have hz : ([] : List Int).length + (enc (nS ws : Int) ++ (enc (lst ws []) ++ (fst ws).flatMap (stN ws))).length = (pkE ws).length := by rw [List.length_nil, Nat.zero_add]; rfl
      obtain ⟨r1, r2, r3⟩ := o
      rw [hz] at r1 r2
      refine ⟨0, T2, am_cI_of ?_, r1, fun h => ?_, G2⟩
      · (try dsimp only); rw [en_md_packs]; (try simp (disch := omega) only [Option.bind_some, if_true, if_false, eq_self, not_true_eq_false, not_false_eq_true, am_w_id, if_pos, if_neg, fu_self, fu_ne, Int.toNat_natCast, e, h21, hU.symm, f1, Int.toNat_zero, m18, f2, show ¬ (1 : Int) = 0 by decide]); rw [B_md_packs_0]; (try simp (disch := omega) only [Option.bind_some, if_true, if_false, eq_self, not_true_eq_false, not_false_eq_true, am_w_id, if_pos, if_neg, fu_self, fu_ne, Int.toNat_natCast, m_gI_32, m_p_32, m_gI_21, m_p_21, m_O, e, h21, hU.symm, f1, Int.toNat_zero, m18, f2, show ¬ (1 : Int) = 0 by decide]); rw [B_md_packs_20]; (try simp (disch := omega) only [Option.bind_some, if_true, if_false, eq_self, not_true_eq_false, not_false_eq_true, am_w_id, if_pos, if_neg, fu_self, fu_ne, Int.toNat_natCast, m_gR_18, m_l_18, m_s_18, m_O, e, h21, hU.symm, f1, Int.toNat_zero, m18, f2, show ¬ (1 : Int) = 0 by decide]); rw [B_md_packs_33]; (try simp (disch := omega) only [Option.bind_some, if_true, if_false, eq_self, not_true_eq_false, not_false_eq_true, am_w_id, if_pos, if_neg, fu_self, fu_ne, Int.toNat_natCast, e, h21, hU.symm, f1, Int.toNat_zero, m18, f2, show ¬ (1 : Int) = 0 by decide])
      · rw [if_pos h] at r1; exact absurd r1 (by decide)
  · subst v1
    have o := pkO.no (E2 := enc (lst ws []) ++ (fst ws).flatMap (stN ws)) v2 q1
    have hz : ([] : List Int).length + (enc (nS ws : Int) ++ (enc (lst ws []) ++ (fst ws).flatMap (stN ws))).length = (pkE ws).length := by rw [List.length_nil, Nat.zero_add]; rfl
    obtain ⟨r1, r2, r3⟩ := o
    rw [hz] at r1 r2
    refine ⟨0, T1, am_cI_of ?_, r1, fun h => ?_, G1⟩
    · (try dsimp only); rw [en_md_packs]; (try simp (disch := omega) only [Option.bind_some, if_true, if_false, eq_self, not_true_eq_false, not_false_eq_true, am_w_id, if_pos, if_neg, fu_self, fu_ne, Int.toNat_natCast, e, h21, hU.symm, f1, show ¬ (1 : Int) = 0 by decide]); rw [B_md_packs_0]; (try simp (disch := omega) only [Option.bind_some, if_true, if_false, eq_self, not_true_eq_false, not_false_eq_true, am_w_id, if_pos, if_neg, fu_self, fu_ne, Int.toNat_natCast, m_gI_32, m_p_32, m_gI_21, m_p_21, m_O, e, h21, hU.symm, f1, show ¬ (1 : Int) = 0 by decide]); rw [B_md_packs_33]; (try simp (disch := omega) only [Option.bind_some, if_true, if_false, eq_self, not_true_eq_false, not_false_eq_true, am_w_id, if_pos, if_neg, fu_self, fu_ne, Int.toNat_natCast, e, h21, hU.symm, f1, show ¬ (1 : Int) = 0 by decide])
    · rw [if_pos h] at r1; exact absurd r1 (by decide)
def cpb (f : Nat → Int) (B : List Int) (k : Nat) : Nat → Int := fun i => if i < k then sby (B.getD i 0) else f i
theorem cpb_s (f : Nat → Int) (B : List Int) (k : Nat) : am_fu (cpb f B k) k (sby (B.getD k 0)) = cpb f B (k + 1) := by
  funext i
  unfold am_fu cpb
  by_cases c : i = k
  · rw [if_pos c, if_pos (by omega), c]
  · rw [if_neg c]
    by_cases c2 : i < k
    · rw [if_pos c2, if_pos (by omega)]
    · rw [if_neg c2, if_neg (by omega)]
theorem mo_pack {t : List Int} {bs : List wd} {hs : List (List wd × List wd)} {sh : Nat → Option (List wd)} (H : MR S t ws bs hs sh) (O : okS t ws bs hs sh) (d : Nat) : ∃ S', am_cI (d + 6) N_md_pack [.inr (.inr (some (m)))] (MH m g S) = some ((sp_pack (t, ws, bs, hs, sh)).1, MH m g S') ∧ MS S' (sp_pack (t, ws, bs, hs, sh)).2 := by
  obtain ⟨x, T, e, r1, r2, r3⟩ := md_packs (m := m) (g := g) O.2.1 H.2.1 d
  unfold sp_pack
  dsimp only
  by_cases c : (pkE ws).length ≤ 400
  · rw [if_pos c] at r1 ⊢
    subst r1
    obtain ⟨p1, p2, p3, p4⟩ := r2 c
    generalize pkE ws = B at *
    have T0 : cpb (T 0) B 0 = T 0 := by funext i; unfold cpb; rw [if_neg (by omega)]
    have loop := am_for (F := fun k => EV (d + 6) N_md_pack T_md_pack_12 [.inr (.inr (some (m))), .inl ((k : Int))] [] (MH m g (am_fu T 0 (cpb (T 0) B k)))) (k := 0) (n := B.length) (Nat.zero_le _) (fun k _ hk => by
      have hb := by_get p3 hk
      have hsb := sby_bd hb.1 hb.2
      have h31 := p4 k hk
      have e9 : (k : Int) + 1 = ((k + 1 : Nat) : Int) := by omega
      have ef := cpb_s (T 0) B k
      (try dsimp only); rw [B_md_pack_12]; (try simp (disch := omega) only [Option.bind_some, if_true, if_false, eq_self, not_true_eq_false, not_false_eq_true, am_w_id, if_pos, if_neg, fu_self, fu_ne, Int.toNat_natCast, m_gI_32, m_p_32, p1, m_l_31, m_s_0, h31, ef, fu_fu, e9]); rw [B_md_pack_20]; (try simp (disch := omega) only [Option.bind_some, if_true, if_false, eq_self, not_true_eq_false, not_false_eq_true, am_w_id, if_pos, if_neg, fu_self, fu_ne, Int.toNat_natCast, m_gR_0, m_l_0, m_s_0, m_gR_31, m_l_31, m_s_31, p1, m_l_31, m_s_0, h31, ef, fu_fu, e9]))
    refine ⟨am_fu (am_fu T 0 (cpb (T 0) B B.length)) 1 (fun _ => (B.length : Int)), am_cI_of ?_, ?_⟩
    · have st : am_call (d + 6) N_md_pack [.inr (.inr (some (m)))] (MH m g S) = EV (d + 6) N_md_pack T_md_pack_12 [.inr (.inr (some (m))), .inl (((0 : Nat) : Int))] [] (MH m g (am_fu T 0 (cpb (T 0) B 0))) := by
        rw [T0, fu_eta]
        (try dsimp only); rw [en_md_pack]; (try simp (disch := omega) only [Option.bind_some, if_true, if_false, eq_self, not_true_eq_false, not_false_eq_true, am_w_id, if_pos, if_neg, fu_self, fu_ne, Int.toNat_natCast, e, show ¬ (1 : Int) = 0 by decide]); rw [B_md_pack_0]; (try simp (disch := omega) only [Option.bind_some, if_true, if_false, eq_self, not_true_eq_false, not_false_eq_true, am_w_id, if_pos, if_neg, fu_self, fu_ne, Int.toNat_natCast, m_O, e, show ¬ (1 : Int) = 0 by decide]); rw [B_md_pack_10]; (try simp (disch := omega) only [Option.bind_some, if_true, if_false, eq_self, not_true_eq_false, not_false_eq_true, am_w_id, if_pos, if_neg, fu_self, fu_ne, Int.toNat_natCast, e, show ¬ (1 : Int) = 0 by decide])
        rfl
      refine st.trans (loop.trans ?_)
      (try dsimp only); rw [B_md_pack_12]; (try simp (disch := omega) only [Option.bind_some, if_true, if_false, eq_self, not_true_eq_false, not_false_eq_true, am_w_id, if_pos, if_neg, fu_self, fu_ne, Int.toNat_natCast, m_gI_32, m_p_32, p1]); rw [B_md_pack_38]; (try simp (disch := omega) only [Option.bind_some, if_true, if_false, eq_self, not_true_eq_false, not_false_eq_true, am_w_id, if_pos, if_neg, fu_self, fu_ne, Int.toNat_natCast, m_gI_32, m_p_32, m_gI_1, m_p_1, p1])
    · refine MR.frt H (l := [0, 1, 13, 14, 15, 16, 17, 18, 19, 20, 21, 22, 23, 31, 32]) (((r3.wide (by decide)).up (by decide) _).up (by decide) _) (by decide) ?_
      refine ⟨congrFun fu_self 0, p2, p3, fun i hi => ?_⟩
      rw [fu_ne (by decide), fu_self]
      unfold cpb
      rw [if_pos hi]
  · rw [if_neg c] at r1 ⊢
    subst r1
    refine ⟨T, am_cI_of ?_, H.frd r3 (by decide)⟩
    (try dsimp only); rw [en_md_pack]; (try simp (disch := omega) only [Option.bind_some, if_true, if_false, eq_self, not_true_eq_false, not_false_eq_true, am_w_id, if_pos, if_neg, fu_self, fu_ne, Int.toNat_natCast, e]); rw [B_md_pack_0]; (try simp (disch := omega) only [Option.bind_some, if_true, if_false, eq_self, not_true_eq_false, not_false_eq_true, am_w_id, if_pos, if_neg, fu_self, fu_ne, Int.toNat_natCast, m_O, e]); rw [B_md_pack_7]; (try simp (disch := omega) only [Option.bind_some, if_true, if_false, eq_self, not_true_eq_false, not_false_eq_true, am_w_id, if_pos, if_neg, fu_self, fu_ne, Int.toNat_natCast, e])
end MO
