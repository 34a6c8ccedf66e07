/-! the model: the tape as letters, telling a word of a list, taking one out -/
section MD
variable {m : Nat} {g : am_H} {S : Nat → Nat → Int} {q j n o : Nat} {ws : List wd} {t : List Int}
theorem tb_get {i : Nat} (h : i < t.length) : tb t (i : Int) = t.getD i 0 := by unfold tb; rw [if_pos (by omega)]; rfl
/-- the letters that bytes spell -/
def lw (t : List Int) : List Int := t.map (fun x => x - 96)
theorem lw_len : (lw t).length = t.length := List.length_map _
theorem lw_get {i : Nat} (h : i < t.length) : (lw t).getD i 0 = t.getD i 0 - 96 := by
  rw [gd_s (by rw [lw_len]; exact h), gd_s h]
  unfold lw
  rw [List.getElem_map]
abbrev allL (t : List Int) : Prop := ∀ x ∈ t, isL x = true
theorem isL_iff {x : Int} : isL x = true ↔ 97 ≤ x ∧ x ≤ 122 := by unfold isL; exact decide_eq_true_iff
theorem lw_wl (h : allL t) : wl (lw t) := by
  intro x hx
  obtain ⟨y, hy, rfl⟩ := List.mem_map.mp hx
  have := isL_iff.mp (h y hy)
  omega
theorem spl_lw : spl t 0 t.length = lw t := by unfold spl lw; rw [List.drop_zero, List.take_length]
theorem allL_succ {k : Nat} (h : k < t.length) : allL (t.take (k + 1)) ↔ allL (t.take k) ∧ isL (t.getD k 0) = true := by
  have e : t.take (k + 1) = t.take k ++ [t.getD k 0] := by
    rw [List.take_succ, List.getElem?_eq_getElem h, gd_s h]
    rfl
  rw [e]
  constructor
  · intro g
    exact ⟨fun x hx => g x (List.mem_append_left _ hx), g _ (by simp)⟩
  · rintro ⟨g1, g2⟩ x hx
    rcases List.mem_append.mp hx with h1 | h1
    · exact g1 x h1
    · rw [List.mem_singleton.mp h1]; exact g2
def tol (f : Nat → Int) (t : List Int) (k : Nat) : Nat → Int := fun i => if i < k then t.getD i 0 - 96 else f i
theorem md_isLetters (T : taR S t) (lo hi : Int) (d : Nat) : ∃ S', am_cI (d + 1) N_md_isLetters [.inr (.inr (some (m))), .inl (lo), .inl (hi)] (MH m g S) = some (if (lo ≤ t.length ∧ t.length ≤ hi) ∧ allL t then 1 else 0, MH m g S') ∧ toldR S' (lw t) ∧ taR S' [] ∧ fd [1, 7, 8] S S' := by
  have T' := T
  obtain ⟨T1, T2, T3, T4⟩ := T
  have hsz : ((lw t).length : Int) = t.length := by rw [lw_len]
  have key : ∃ r : Int, am_call (d + 1) N_md_isLetters [.inr (.inr (some (m))), .inl (lo), .inl (hi)] (MH m g S) = some (some (.inl r), MH m g (am_fu (am_fu (am_fu S 8 (fun _ => (t.length : Int))) 7 (tol (S 7) t t.length)) 1 (fun _ => 0))) ∧ ((r = 1 ∧ (lo ≤ t.length ∧ t.length ≤ hi) ∧ allL t) ∨ (r = 0 ∧ ¬ ((lo ≤ t.length ∧ t.length ≤ hi) ∧ allL t))) := by
    simp (disch := omega) only [en_md_isLetters, B_md_isLetters_0, Option.bind_some, if_true, if_false, eq_self, not_true_eq_false, not_false_eq_true, am_w_id, if_pos, if_neg, fu_self, fu_ne, Int.toNat_natCast, m_gI_1, m_p_1, m_gI_8, m_p_8, md_isIn, T1]
    have e0 : tol (S 7) t 0 = S 7 := by funext i; unfold tol; rw [if_neg (by omega)]
    have hS : ∀ k : Nat, k ≤ t.length → taR (am_fu (am_fu S 8 (fun _ => (t.length : Int))) 7 (tol (S 7) t k)) t := fun k _ => ⟨by rw [fu_ne (by decide), fu_ne (by decide)]; exact T1, T2, T3, fun i hi => by rw [fu_ne (by decide), fu_ne (by decide)]; exact T4 i hi⟩
    have start : EV (d + 1) N_md_isLetters T_md_isLetters_24 [.inr (.inr (some (m))), .inl (lo), .inl (hi), .inl (if lo ≤ (t.length : Int) ∧ (t.length : Int) ≤ hi then 1 else 0), .inl (0)] [] (MH m g (am_fu S 8 (fun _ => (t.length : Int)))) = EV (d + 1) N_md_isLetters T_md_isLetters_24 [.inr (.inr (some (m))), .inl (lo), .inl (hi), .inl (if lo ≤ (t.length : Int) ∧ (t.length : Int) ≤ hi then 1 else 0), .inl (((0 : Nat) : Int))] [] (MH m g (am_fu (am_fu S 8 (fun _ => (t.length : Int))) 7 (tol (S 7) t 0))) := by
      rw [e0]
      have : am_fu (am_fu S 8 (fun _ => (t.length : Int))) 7 (S 7) = am_fu S 8 (fun _ => (t.length : Int)) := by
        funext k
        unfold am_fu
        by_cases c : k = 7
        · subst c; rfl
        · rw [if_neg c]
      rw [this]
      rfl
    rw [start]
    refine am_loop (S := Nat × Int) (F := fun s => EV (d + 1) N_md_isLetters T_md_isLetters_24 [.inr (.inr (some (m))), .inl (lo), .inl (hi), .inl (s.2), .inl ((s.1 : Int))] [] (MH m g (am_fu (am_fu S 8 (fun _ => (t.length : Int))) 7 (tol (S 7) t s.1)))) (I := fun s => s.1 ≤ t.length ∧ ((s.2 = 1 ∧ (lo ≤ t.length ∧ t.length ≤ hi) ∧ allL (t.take s.1)) ∨ (s.2 = 0 ∧ ¬ ((lo ≤ t.length ∧ t.length ≤ hi) ∧ allL (t.take s.1)))))
      (R := fun p => ∃ r : Int, p = some (some (.inl r), MH m g (am_fu (am_fu (am_fu S 8 (fun _ => (t.length : Int))) 7 (tol (S 7) t t.length)) 1 (fun _ => 0))) ∧ ((r = 1 ∧ (lo ≤ t.length ∧ t.length ≤ hi) ∧ allL t) ∨ (r = 0 ∧ ¬ ((lo ≤ t.length ∧ t.length ≤ hi) ∧ allL t)))) (fun s => t.length - s.1) ?_ (0, if lo ≤ (t.length : Int) ∧ (t.length : Int) ≤ hi then 1 else 0) ⟨Nat.zero_le _, ?_⟩
    · rintro ⟨k, r⟩ ⟨h1, h2⟩
      dsimp only at h1 h2 ⊢
      by_cases c : k = t.length
      · left
        subst c
        rw [List.take_length] at h2
        refine ⟨r, ?_, h2⟩
        have hr : 0 ≤ r ∧ r < 2 := by rcases h2 with h | h <;> omega
        simp (disch := omega) only [B_md_isLetters_24, B_md_isLetters_85, Option.bind_some, if_true, if_false, eq_self, not_true_eq_false, not_false_eq_true, am_w_id, if_pos, if_neg, fu_self, fu_ne, Int.toNat_natCast, m_gI_1, m_p_1, T1]
      · right
        have hk : k < t.length := by omega
        have hb := by_get T3 hk
        have hby := md_byteAt (m := m) (g := g) (hS k h1) (k := (k : Int)) (by omega)
        have ef : am_fu (tol (S 7) t k) k (t.getD k 0 - 97 + 1) = tol (S 7) t (k + 1) := by
          funext i
          unfold am_fu tol
          by_cases c : i = k
          · rw [if_pos c, if_pos (by omega), c]; omega
          · rw [if_neg c]
            by_cases c2 : i < k
            · rw [if_pos c2, if_pos (by omega)]
            · rw [if_neg c2, if_neg (by omega)]
        have eg : tol (S 7) t (k + 1) k = t.getD k 0 - 96 := by unfold tol; rw [if_pos (by omega)]
        rw [tb_get hk] at hby
        have hsucc := allL_succ hk
        rw [isL_iff] at hsucc
        rcases h2 with ⟨h2, h3, h4⟩ | ⟨h2, h3⟩
        · by_cases c2 : 97 ≤ t.getD k 0 ∧ t.getD k 0 ≤ 122
          · refine ⟨(k + 1, 1), ⟨by dsimp only; omega, Or.inl ⟨rfl, h3, hsucc.mpr ⟨h4, c2⟩⟩⟩, by dsimp only; omega, ?_⟩
            (try dsimp only); rw [B_md_isLetters_24]; simp (disch := omega) only [B_md_isLetters_33, B_md_isLetters_55, B_md_isLetters_73, B_md_isLetters_78, Option.bind_some, if_true, if_false, eq_self, not_true_eq_false, not_false_eq_true, am_w_id, if_pos, if_neg, fu_self, fu_ne, Int.toNat_natCast, m_gI_1, m_p_1, m_gR_7, m_l_7, m_s_7, m_O, md_isIn, T1, h2, hby, ef, eg, fu_fu]
            rfl
          · refine ⟨(k + 1, 0), ⟨by dsimp only; omega, Or.inr ⟨rfl, fun g => c2 (hsucc.mp g.2).2⟩⟩, by dsimp only; omega, ?_⟩
            (try dsimp only); rw [B_md_isLetters_24]; simp (disch := omega) only [B_md_isLetters_33, B_md_isLetters_55, B_md_isLetters_77, B_md_isLetters_78, Option.bind_some, if_true, if_false, eq_self, not_true_eq_false, not_false_eq_true, am_w_id, if_pos, if_neg, fu_self, fu_ne, Int.toNat_natCast, m_gI_1, m_p_1, m_gR_7, m_l_7, m_s_7, m_O, md_isIn, T1, h2, hby, ef, eg, fu_fu]
            rfl
        · refine ⟨(k + 1, 0), ⟨by dsimp only; omega, Or.inr ⟨rfl, fun g => h3 ⟨g.1, (hsucc.mp g.2).1⟩⟩⟩, by dsimp only; omega, ?_⟩
          (try dsimp only); rw [B_md_isLetters_24]; simp (disch := omega) only [B_md_isLetters_33, B_md_isLetters_77, B_md_isLetters_78, Option.bind_some, if_true, if_false, eq_self, not_true_eq_false, not_false_eq_true, am_w_id, if_pos, if_neg, fu_self, fu_ne, Int.toNat_natCast, m_gI_1, m_p_1, m_gR_7, m_l_7, m_s_7, m_O, md_isIn, T1, h2, hby, ef, eg, fu_fu]
          rfl
    · dsimp only
      have ht : allL (t.take 0) := by rw [List.take_zero]; intro x hx; simp at hx
      by_cases c : lo ≤ (t.length : Int) ∧ (t.length : Int) ≤ hi
      · rw [if_pos c]; exact Or.inl ⟨rfl, c, ht⟩
      · rw [if_neg c]; exact Or.inr ⟨rfl, fun g => c g.1⟩
  obtain ⟨r, e, hr⟩ := key
  refine ⟨am_fu (am_fu (am_fu S 8 (fun _ => (t.length : Int))) 7 (tol (S 7) t t.length)) 1 (fun _ => 0), (am_cI_of e).trans ?_, ?_, ?_, ((fd.rf.up (by decide) _).up (by decide) _).up (by decide) _⟩
  · rcases hr with ⟨h1, h2⟩ | ⟨h1, h2⟩
    · rw [if_pos h2, h1]
    · rw [if_neg h2, h1]
  · refine ⟨?_, by rw [lw_len]; exact T2, fun i hi => ?_⟩
    · rw [fu_ne (by decide), fu_ne (by decide), fu_self, lw_len]
    · rw [lw_len] at hi
      rw [fu_ne (by decide), fu_self, lw_get hi]
      unfold tol
      rw [if_pos hi]
  · exact ⟨by rw [fu_self]; rfl, by simp, fun x hx => by simp at hx, fun i hi => by simp at hi⟩
theorem md_isWord (T : taR S t) (d : Nat) : ∃ S', am_cI (d + 2) N_md_isWord [.inr (.inr (some (m)))] (MH m g S) = some (if (1 ≤ t.length ∧ t.length ≤ 10) ∧ allL t then 1 else 0, MH m g S') ∧ toldR S' (lw t) ∧ taR S' [] ∧ fd [1, 7, 8] S S' := by
  obtain ⟨S', e, h⟩ := md_isLetters (m := m) (g := g) T 1 10 d
  refine ⟨S', am_cI_of ?_, h⟩
  rw [en_md_isWord]
  by_cases c : ((1 : Int) ≤ t.length ∧ (t.length : Int) ≤ 10) ∧ allL t
  · rw [if_pos c] at e
    have c2 : (1 ≤ t.length ∧ t.length ≤ 10) ∧ allL t := ⟨by omega, c.2⟩
    rw [if_pos c2]
    simp (disch := omega) only [B_md_isWord_0, Option.bind_some, if_true, if_false, eq_self, not_true_eq_false, not_false_eq_true, am_w_id, if_pos, if_neg, fu_self, fu_ne, Int.toNat_natCast, m_O, e]
  · rw [if_neg c] at e
    have c2 : ¬ ((1 ≤ t.length ∧ t.length ≤ 10) ∧ allL t) := fun h => c ⟨by omega, h.2⟩
    rw [if_neg c2]
    simp (disch := omega) only [B_md_isWord_0, Option.bind_some, if_true, if_false, eq_self, not_true_eq_false, not_false_eq_true, am_w_id, if_pos, if_neg, fu_self, fu_ne, Int.toNat_natCast, m_O, e]
theorem wrow_mv {f f' : Nat → Int} {b b' : Nat} {p : wd} (hw : wrow f b p) (h : ∀ i, i < 12 → f' (b' + i) = f (b + i)) : wrow f' b' p := by
  refine ⟨?_, ?_, fun i hi => ?_⟩
  · have := h 0 (by omega); rw [Nat.add_zero, Nat.add_zero] at this; rw [this]; exact hw.1
  · rw [h 1 (by omega)]; exact hw.2.1
  · rw [Nat.add_assoc, h (2 + i) (by omega), ← Nat.add_assoc]; exact hw.2.2 i hi
theorem md_tells (hq : isRow m q j n) (hn : n < 100000) (H : ml n (S j) o ws) {w : Nat} {p : wd} (hw : ws[w]? = some p) (hl : p.1.length ≤ 10) (hj8 : j ≠ 8) (hj7 : j ≠ 7) (d : Nat) : ∃ S', am_cV (d + 1) N_md_tells [.inr (.inr (some (m))), .inr (.inr (some (q))), .inl ((o : Int)), .inl ((w : Int))] (MH m g S) = some (MH m g S') ∧ toldR S' p.1 ∧ fd [7, 8] S S' := by
  refine ⟨am_fu (am_fu S 8 (fun _ => (p.1.length : Int))) 7 (prf (S 7) (fun i => p.1.getD i 0) p.1.length), am_cV_of ?_, ⟨?_, by omega, fun i hi => ?_⟩, (fd.rf.up (by decide) _).up (by decide) _⟩
  · have e0 : am_fu S 8 (fun _ => (p.1.length : Int)) = am_fu (am_fu S 8 (fun _ => (p.1.length : Int))) 7 (prf (S 7) (fun i => p.1.getD i 0) 0) := by
      rw [prf0, fu_id]
      rw [fu_ne (by decide)]
    simp (disch := omega) only [en_md_tells, B_md_tells_0, Option.bind_some, if_true, if_false, eq_self, not_true_eq_false, not_false_eq_true, am_w_id, if_pos, if_neg, fu_self, fu_ne, Int.toNat_natCast, m_gI_8, m_p_8, md_lengthOf hq hn H hw]
    have loop := am_for (F := fun k => EV (d + 1) N_md_tells T_md_tells_13 [.inr (.inr (some (m))), .inr (.inr (some (q))), .inl ((o : Int)), .inl ((w : Int)), .inl ((k : Int))] [] (MH m g (am_fu (am_fu S 8 (fun _ => (p.1.length : Int))) 7 (prf (S 7) (fun i => p.1.getD i 0) k)))) (k := 0) (n := p.1.length) (Nat.zero_le _) (fun k _ hk => by
      have HH : ml n ((am_fu (am_fu S 8 (fun _ => (p.1.length : Int))) 7 (prf (S 7) (fun i => p.1.getD i 0) k)) j) o ws := by rw [fu_ne hj7, fu_ne hj8]; exact H
      (try dsimp only); rw [B_md_tells_13]; simp (disch := omega) only [B_md_tells_22, Option.bind_some, if_true, if_false, eq_self, not_true_eq_false, not_false_eq_true, am_w_id, if_pos, if_neg, fu_self, fu_ne, Int.toNat_natCast, m_gI_8, m_p_8, m_gR_7, m_l_7, m_s_7, md_letterOf hq hn HH hw (show k < 10 by omega), prf_s, fu_fu]
      rfl)
    rw [← e0] at loop
    refine loop.trans ?_
    simp (disch := omega) only [B_md_tells_13, B_md_tells_43, Option.bind_some, if_true, if_false, eq_self, not_true_eq_false, not_false_eq_true, am_w_id, if_pos, if_neg, fu_self, fu_ne, Int.toNat_natCast, m_gI_8, m_p_8]
  · rw [fu_ne (by decide), fu_self]
  · rw [fu_self, prf_lt hi]
def shd (f : Nat → Int) (b k : Nat) : Nat → Int := fun i => if b ≤ i ∧ i < b + k then f (i + 12) else f i
theorem md_takes (hq : isRow m q j n) (hn : n < 100000) (H : ml n (S j) o ws) {k : Nat} (hk : k < ws.length) (d : Nat) : ∃ f, am_cV d N_md_takes [.inr (.inr (some (m))), .inr (.inr (some (q))), .inl ((o : Int)), .inl ((k : Int))] (MH m g S) = some (MH m g (am_fu S j f)) ∧ ml n f o (ws.eraseIdx k) ∧ ∀ i, (i < o ∨ o + 1 + 12 * ws.length ≤ i) → f i = S j i := by
  obtain ⟨h1, h2, h3⟩ := H
  have hl : (ws.eraseIdx k).length = ws.length - 1 := List.length_eraseIdx_of_lt hk
  refine ⟨am_fu (shd (S j) (o + 1 + 12 * k) (12 * (ws.length - 1 - k))) o ((ws.length : Int) - 1), am_cV_of ?_, ⟨?_, by omega, fun w p hp => ?_⟩, fun i hi => ?_⟩
  · have e0 : shd (S j) (o + 1 + 12 * k) 0 = S j := by funext i; unfold shd; rw [if_neg (by omega)]
    have es : (o : Int) + 1 + 12 * (k : Int) = ((o + 1 + 12 * k + 0 : Nat) : Int) := by omega
    simp (disch := omega) only [en_md_takes, B_md_takes_0, Option.bind_some, if_true, if_false, eq_self, not_true_eq_false, not_false_eq_true, am_w_id, if_pos, if_neg, fu_self, fu_ne, Int.toNat_natCast, es]
    have loop := am_for (F := fun i => EV d N_md_takes T_md_takes_10 [.inr (.inr (some (m))), .inr (.inr (some (q))), .inl ((o : Int)), .inl ((k : Int)), .inl (((o + 1 + 12 * k + i : Nat) : Int))] [] (MH m g (am_fu S j (shd (S j) (o + 1 + 12 * k) i)))) (k := 0) (n := 12 * (ws.length - 1 - k)) (Nat.zero_le _) (fun i _ hi => by
      have e1 : shd (S j) (o + 1 + 12 * k) i o = ws.length := by unfold shd; rw [if_neg (by omega), h1]
      have e2 : (((o + 1 + 12 * k + i : Nat) : Int) + 12).toNat = o + 1 + 12 * k + i + 12 := by omega
      have ef : am_fu (shd (S j) (o + 1 + 12 * k) i) (o + 1 + 12 * k + i) (shd (S j) (o + 1 + 12 * k) i (o + 1 + 12 * k + i + 12)) = shd (S j) (o + 1 + 12 * k) (i + 1) := by
        funext x
        unfold am_fu shd
        by_cases c : x = o + 1 + 12 * k + i
        · rw [if_pos c, if_neg (by omega), if_pos (by omega), c]
        · rw [if_neg c]
          by_cases c2 : o + 1 + 12 * k ≤ x ∧ x < o + 1 + 12 * k + i
          · rw [if_pos c2, if_pos (by omega)]
          · rw [if_neg c2, if_neg (by omega)]
      (try dsimp only); rw [B_md_takes_10]; simp (disch := omega) only [B_md_takes_27, Option.bind_some, if_true, if_false, eq_self, not_true_eq_false, not_false_eq_true, am_w_id, if_pos, if_neg, fu_self, fu_ne, Int.toNat_natCast, hq.r, hq.w, e1, e2, ef, fu_fu]
      rfl)
    rw [e0, fu_eta] at loop
    refine loop.trans ?_
    have e1 : shd (S j) (o + 1 + 12 * k) (12 * (ws.length - 1 - k)) o = ws.length := by unfold shd; rw [if_neg (by omega), h1]
    simp (disch := omega) only [B_md_takes_10, B_md_takes_44, Option.bind_some, if_true, if_false, eq_self, not_true_eq_false, not_false_eq_true, am_w_id, if_pos, if_neg, fu_self, fu_ne, Int.toNat_natCast, hq.r, hq.w, e1, fu_fu]
  · rw [fu_self]; omega
  · have hw := (List.getElem?_eq_some_iff.mp hp).1
    rw [List.getElem?_eraseIdx] at hp
    by_cases c : w < k
    · rw [if_pos c] at hp
      refine wrow_mv (h3 w p hp) (fun i hi => ?_)
      rw [fu_ne (by omega)]; unfold shd; rw [if_neg (by omega)]
    · rw [if_neg c] at hp
      refine wrow_mv (h3 (w + 1) p hp) (fun i hi => ?_)
      rw [fu_ne (by omega)]; unfold shd; rw [if_pos (by omega)]; congr 1; omega
  · rw [fu_ne (by omega)]
    unfold shd
    rw [if_neg (by omega)]
end MD
