/-! what is made: objects whose rows are made with them -/
def iniK (a ci : Nat) (K : am_H → Option am_R) : List (Nat × (Nat × Nat)) → am_H → Option am_R
  | [], h => K h
  | c :: C, h => (am_p (am_push h (am_na c.2.1 c.2.2)) a ci c.1 (.inr (.inr (some h.1.1)))).bind (iniK a ci K C)
def fldF : List (Nat × (Nat × Nat)) → List am_V → Nat → List am_V
  | [], F, _ => F
  | c :: C, F, p => fldF C (F.set c.1 (.inr (.inr (some p)))) (p + 1)
def szC (C : List (Nat × (Nat × Nat))) : Nat := (C.map (fun c => c.2.2)).sum
theorem iniK_ok (a ci : Nat) (K : am_H → Option am_R) : ∀ (C : List (Nat × (Nat × Nat))) (h : am_H) (F : List am_V) (p c : Nat), h.2 a = .inr (ci, F) → h.1 = (p, c) → a < p → (∀ x ∈ C, x.1 < F.length) →
    ∃ h', iniK a ci K C h = K h' ∧ h'.1 = (p + C.length, c + szC C) ∧ h'.2 a = .inr (ci, fldF C F p) ∧ (∀ i, i < C.length → h'.2 (p + i) = am_na (C.getD i (0, 0, 0)).2.1 (C.getD i (0, 0, 0)).2.2) ∧ ∀ q, q ≠ a → (q < p ∨ p + C.length ≤ q) → h'.2 q = h.2 q
  | [], h, F, p, c, h1, h2, h3, h4 => ⟨h, rfl, h2, h1, fun i hi => by simp at hi, fun q _ _ => rfl⟩
  | x :: C, h, F, p, c, h1, h2, h3, h4 => by
    have hp : h.1.1 = p := by rw [h2]
    obtain ⟨g, eg⟩ : ∃ g, g = am_push h (am_na x.2.1 x.2.2) := ⟨_, rfl⟩
    have ga : g.2 a = .inr (ci, F) := by
      rw [eg]
      show (if a = h.1.1 then _ else h.2 a) = _
      rw [if_neg (by omega)]
      exact h1
    have e1 : am_p g a ci x.1 (.inr (.inr (some (p)))) = some (am_up g a (.inr (ci, F.set x.1 (.inr (.inr (some (p))))))) := rd_p ga (h4 x List.mem_cons_self)
    obtain ⟨g2, eg2⟩ : ∃ g2, g2 = am_up g a (.inr (ci, F.set x.1 (.inr (.inr (some (p)))))) := ⟨_, rfl⟩
    have g1 : g2.1 = (p + 1, c + x.2.2) := by
      rw [eg2, eg]
      show (h.1.1 + 1, h.1.2 + x.2.2) = _
      rw [h2]
    obtain ⟨h', r1, r2, r3, r4, r5⟩ := iniK_ok a ci K C g2 (F.set x.1 (.inr (.inr (some (p))))) (p + 1) (c + x.2.2) (by rw [eg2]; exact up_self) g1 (by omega) (fun y hy => by rw [List.length_set]; exact h4 y (List.mem_cons_of_mem _ hy))
    have hl : (x :: C).length = C.length + 1 := rfl
    refine ⟨h', ?_, ?_, r3, ?_, ?_⟩
    · show (am_p (am_push h (am_na x.2.1 x.2.2)) a ci x.1 (.inr (.inr (some h.1.1)))).bind _ = _
      rw [← eg, hp, e1, Option.bind_some, ← eg2]
      exact r1
    · have hs : szC (x :: C) = x.2.2 + szC C := by unfold szC; rw [List.map_cons, List.sum_cons]
      rw [r2, hs, hl]
      congr 1 <;> omega
    · intro i hi
      cases i with
      | zero =>
        rw [Nat.add_zero, r5 p (by omega) (by omega), eg2, up_ne (by omega), eg]
        show (if p = h.1.1 then _ else _) = _
        rw [if_pos hp.symm]
        rfl
      | succ i =>
        have := r4 i (by omega)
        rw [show p + (i + 1) = p + 1 + i by omega, this]
        rfl
    · intro q q1 q2
      rw [r5 q q1 (by omega), eg2, up_ne q1, eg]
      show (if q = h.1.1 then _ else _) = _
      rw [if_neg (by omega)]
/-- cells outside are as they were -/
def nfr (lo hi : Nat) (h h' : am_H) : Prop := ∀ q, (q < lo ∨ hi ≤ q) → h'.2 q = h.2 q
theorem nfr.tr {lo hi : Nat} {h h' h2 : am_H} (a : nfr lo hi h h') (b : nfr lo hi h' h2) : nfr lo hi h h2 := fun q hq => (b q hq).trans (a q hq)
theorem nfr.wide {lo hi lo' hi' : Nat} {h h' : am_H} (a : nfr lo hi h h') (h1 : lo' ≤ lo) (h2 : hi ≤ hi') : nfr lo' hi' h h' := fun q hq => a q (by omega)
theorem nfr.rf {lo hi : Nat} {h : am_H} : nfr lo hi h h := fun _ _ => rfl
theorem nfr.fz {lo hi : Nat} {h h' : am_H} (a : nfr lo hi h h') : am_fr lo hi h (h.1, h'.2) := ⟨rfl, a⟩
theorem nfr.push {h : am_H} {e : am_E} {p c : Nat} (hp : h.1 = (p, c)) : nfr p (p + 1) h (am_push h e) := fun q hq => by
  show (if q = h.1.1 then e else h.2 q) = h.2 q
  rw [hp]
  exact if_neg (by dsimp only; omega)
theorem push_at {h : am_H} {e : am_E} {p c : Nat} (hp : h.1 = (p, c)) : (am_push h e).2 p = e ∧ (am_push h e).1 = (p + 1, c + am_sz e) := by
  constructor
  · show (if p = h.1.1 then e else h.2 p) = e
    rw [hp]
    exact if_pos rfl
  · show (h.1.1 + 1, h.1.2 + am_sz e) = _
    rw [hp]
def S0 : Nat → Nat → Int := fun _ _ => 0
theorem na_mdE {C : List (Nat × (Nat × Nat))} (hC : ∀ x ∈ C, x.2.1 ≠ 1 ∧ x.2.1 ≠ 4) {i : Nat} (hi : i < C.length) : am_na (C.getD i (0, 0, 0)).2.1 (C.getD i (0, 0, 0)).2.2 = mdE C S0 i := by
  have hm : C.getD i (0, 0, 0) ∈ C := by
    rw [List.getD_eq_getElem?_getD, List.getElem?_eq_getElem hi]
    exact List.getElem_mem hi
  obtain ⟨h1, h2⟩ := hC _ hm
  unfold am_na mdE
  rw [if_neg h1, if_neg h2]
  rfl
section INI
variable {h : am_H} {a c : Nat}
theorem i_tp (ho : h.2 a = .inr (7, am_df 7)) (h1 : h.1 = (a + 1, c)) (d : Nat) : ∃ h', am_cV d N_tp_init [.inr (.inr (some (a)))] h = some h' ∧ h'.1 = (a + 2, c + 400) ∧ nfr a (a + 2) h h' ∧ tp_at h' a [] := by
  obtain ⟨h', r1, r2, r3, r4, r5⟩ := iniK_ok a 7 (fun h => some (none, h)) [(0, 0, 400)] h (am_df 7) (a + 1) c ho h1 (by omega) (by decide)
  refine ⟨h', am_cV_of ?_, r2, fun q hq => r5 q (by omega) (by show q < a + 1 ∨ a + 1 + 1 ≤ q; omega), r3, by simp, fun x hx => by simp at hx, fun _ => 0, r4 0 (by decide), fun i hi => by simp at hi⟩
  rw [en_tp_init, B_tp_init_0]
  exact r1
theorem i_bk (ho : h.2 a = .inr (0, am_df 0)) (h1 : h.1 = (a + 1, c)) (d : Nat) : ∃ h', am_cV d N_bk_init [.inr (.inr (some (a)))] h = some h' ∧ h'.1 = (a + 3, c + 200) ∧ nfr a (a + 3) h h' ∧ bkR h' a [] := by
  obtain ⟨h', r1, r2, r3, r4, r5⟩ := iniK_ok a 0 (fun h => some (none, h)) [(0, 1, 100), (1, 0, 100)] h (am_df 0) (a + 1) c ho h1 (by omega) (by decide)
  refine ⟨h', am_cV_of ?_, r2, fun q hq => r5 q (by omega) (by show q < a + 1 ∨ a + 1 + 2 ≤ q; omega), fun _ => 0, fun _ => 0, ⟨r3, r4 0 (by decide), r4 1 (by decide), by simp⟩, fun i p hp => by simp at hp⟩
  rw [en_bk_init, B_bk_init_0]
  exact r1
theorem i_ma (ho : h.2 a = .inr (5, am_df 5)) (h1 : h.1 = (a + 1, c)) (d : Nat) : ∃ h', am_cV d N_ma_init [.inr (.inr (some (a)))] h = some h' ∧ h'.1 = (a + 15, c + szC maC) ∧ nfr a (a + 15) h h' ∧ maH a h' S0 = h' := by
  obtain ⟨h', r1, r2, r3, r4, r5⟩ := iniK_ok a 5 (fun h => some (none, h)) maC h (am_df 5) (a + 1) c ho h1 (by omega) (by decide)
  refine ⟨h', am_cV_of ?_, r2, fun q hq => r5 q (by omega) (by show q < a + 1 ∨ a + 1 + 14 ≤ q; omega), xH_mk r3 (fun i hi => ?_)⟩
  · rw [en_ma_init, B_ma_init_0]
    exact r1
  · have := r4 i hi
    rw [na_mdE (by decide) hi] at this
    rw [show a + (i + 1) = a + 1 + i by omega]
    exact this
theorem i_pa (ho : h.2 a = .inr (6, am_df 6)) (h1 : h.1 = (a + 1, c)) (d : Nat) : ∃ h', am_cV d N_pa_init [.inr (.inr (some (a)))] h = some h' ∧ h'.1 = (a + 2, c + 400) ∧ nfr a (a + 2) h h' ∧ paH a h' S0 = h' := by
  obtain ⟨h', r1, r2, r3, r4, r5⟩ := iniK_ok a 6 (fun h => some (none, h)) paC h (am_df 6) (a + 1) c ho h1 (by omega) (by decide)
  refine ⟨h', am_cV_of ?_, r2, fun q hq => r5 q (by omega) (by show q < a + 1 ∨ a + 1 + 1 ≤ q; omega), xH_mk r3 (fun i hi => ?_)⟩
  · rw [en_pa_init, B_pa_init_0]
    exact r1
  · have := r4 i hi
    rw [na_mdE (by decide) hi] at this
    rw [show a + (i + 1) = a + 1 + i by omega]
    exact this
theorem i_un (ta : Nat) (ho : h.2 a = .inr (8, am_df 8)) (h1 : h.1 = (a + 1, c)) (d : Nat) : ∃ h', am_cV d N_un_init [.inr (.inr (some (a))), .inr (.inr (some (ta)))] h = some h' ∧ h'.1 = (a + 6, c + 3203) ∧ nfr a (a + 6) h h' ∧ unH ta a h' S0 = h' := by
  obtain ⟨g, r1, r2, r3, r4, r5⟩ := iniK_ok a 8 (fun h => (am_p h a 8 0 (.inr (.inr (some (ta))))).bind fun h => some (none, h)) unC h (am_df 8) (a + 1) c ho h1 (by omega) (by decide)
  have e := rd_p (k := 0) (v := .inr (.inr (some (ta)))) r3 (show 0 < 12 by decide)
  rw [e, Option.bind_some] at r1
  refine ⟨am_up g a (.inr (8, (fldF unC (am_df 8) (a + 1)).set 0 (.inr (.inr (some (ta)))))), am_cV_of ?_, r2, fun q hq => (up_ne (by omega)).trans (r5 q (by omega) (by show q < a + 1 ∨ a + 1 + 5 ≤ q; omega)), xH_mk up_self (fun i hi => ?_)⟩
  · rw [en_un_init, B_un_init_0]
    exact r1
  · have := r4 i hi
    rw [na_mdE (by decide) hi] at this
    rw [show a + (i + 1) = a + 1 + i by omega, up_ne (by omega)]
    exact this
theorem i_cu (ta bk : Nat) (ho : h.2 a = .inr (1, am_df 1)) (h1 : h.1 = (a + 1, c)) (d : Nat) : ∃ h', am_cV d N_cu_init [.inr (.inr (some (a))), .inr (.inr (some (ta))), .inr (.inr (some (bk)))] h = some h' ∧ h'.1 = (a + 2, c + 61) ∧ nfr a (a + 2) h h' ∧ cuH ta bk a h' S0 = h' := by
  obtain ⟨g, r1, r2, r3, r4, r5⟩ := iniK_ok a 1 (fun h => (am_p h a 1 0 (.inr (.inr (some (ta))))).bind fun h => (am_p h a 1 1 (.inr (.inr (some (bk))))).bind fun h => some (none, h)) cuC h (am_df 1) (a + 1) c ho h1 (by omega) (by decide)
  have e := rd_p (k := 0) (v := .inr (.inr (some (ta)))) r3 (show 0 < 3 by decide)
  rw [e, Option.bind_some] at r1
  obtain ⟨g2, eg2⟩ : ∃ g2, g2 = am_up g a (.inr (1, (fldF cuC (am_df 1) (a + 1)).set 0 (.inr (.inr (some (ta)))))) := ⟨_, rfl⟩
  rw [← eg2] at r1
  have e2 : am_p g2 a 1 1 (.inr (.inr (some (bk)))) = some (am_up g2 a (.inr (1, ((fldF cuC (am_df 1) (a + 1)).set 0 (.inr (.inr (some (ta))))).set 1 (.inr (.inr (some (bk))))))) := rd_p (by rw [eg2]; exact up_self) (show 1 < 3 by decide)
  rw [e2, Option.bind_some] at r1
  refine ⟨_, am_cV_of (Eq.trans ?_ r1), by rw [up_1, eg2]; exact r2, fun q hq => (up_ne (by omega)).trans (by rw [eg2]; exact (up_ne (by omega)).trans (r5 q (by omega) (by show q < a + 1 ∨ a + 1 + 1 ≤ q; omega))), xH_mk up_self (fun i hi => ?_)⟩
  · rw [en_cu_init, B_cu_init_0]
    rfl
  · have := r4 i hi
    rw [na_mdE (by decide) hi] at this
    rw [show a + (i + 1) = a + 1 + i by omega, up_ne (by omega), eg2, up_ne (by omega)]
    exact this
theorem i_li (ta : Nat) (ho : h.2 a = .inr (3, am_df 3)) (h1 : h.1 = (a + 1, c)) (d : Nat) : ∃ h', am_cV d N_li_init [.inr (.inr (some (a))), .inr (.inr (some (ta)))] h = some h' ∧ h'.1 = (a + 3, c + 111) ∧ nfr a (a + 3) h h' ∧ liH ta a h' S0 = h' := by
  obtain ⟨g, r1, r2, r3, r4, r5⟩ := iniK_ok a 3 (fun h => (am_p h a 3 0 (.inr (.inr (some (ta))))).bind fun h => some (none, h)) liC h (am_df 3) (a + 1) c ho h1 (by omega) (by decide)
  have e := rd_p (k := 0) (v := .inr (.inr (some (ta)))) r3 (show 0 < 3 by decide)
  rw [e, Option.bind_some] at r1
  refine ⟨am_up g a (.inr (3, (fldF liC (am_df 3) (a + 1)).set 0 (.inr (.inr (some (ta)))))), am_cV_of ?_, r2, fun q hq => (up_ne (by omega)).trans (r5 q (by omega) (by show q < a + 1 ∨ a + 1 + 2 ≤ q; omega)), xH_mk up_self (fun i hi => ?_)⟩
  · rw [en_li_init, B_li_init_0]
    exact r1
  · have := r4 i hi
    rw [na_mdE (by decide) hi] at this
    rw [show a + (i + 1) = a + 1 + i by omega, up_ne (by omega)]
    exact this
theorem i_lr (ta : Nat) (ho : h.2 a = .inr (4, am_df 4)) (h1 : h.1 = (a + 1, c)) (d : Nat) : ∃ h', am_cV (d + 1) N_lr_init [.inr (.inr (some (a))), .inr (.inr (some (ta)))] h = some h' ∧ h'.1 = (a + 4, c + 203) ∧ nfr a (a + 4) h h' ∧ lrH ta (a + 1) a h' S0 = h' ∧ bkR h' (a + 1) [] := by
  obtain ⟨p1, p2⟩ := push_at (e := .inr (0, am_df 0)) h1
  obtain ⟨g, r1, r2, r3, r4⟩ := i_bk p1 p2 d
  have n1 := (nfr.push (e := .inr (0, am_df 0)) h1).wide (lo' := a) (hi' := a + 4) (by omega) (by omega)
  have ga : g.2 a = .inr (4, am_df 4) := ((r3 a (by omega)).trans ((nfr.push h1) a (by omega))).trans ho
  have e1 := rd_p (k := 1) (v := .inr (.inr (some (a + 1)))) ga (show 1 < 4 by decide)
  obtain ⟨g2, eg2⟩ : ∃ g2, g2 = am_up g a (.inr (4, (am_df 4).set 1 (.inr (.inr (some (a + 1)))))) := ⟨_, rfl⟩
  rw [← eg2] at e1
  have e2 : am_p g2 a 4 0 (.inr (.inr (some (ta)))) = some (am_up g2 a (.inr (4, ((am_df 4).set 1 (.inr (.inr (some (a + 1))))).set 0 (.inr (.inr (some (ta))))))) := rd_p (by rw [eg2]; exact up_self) (show 0 < 4 by decide)
  obtain ⟨g3, eg3⟩ : ∃ g3, g3 = am_up g2 a (.inr (4, ((am_df 4).set 1 (.inr (.inr (some (a + 1))))).set 0 (.inr (.inr (some (ta)))))) := ⟨_, rfl⟩
  rw [← eg3] at e2
  have hp : h.1.1 = a + 1 := by rw [h1]
  refine ⟨g3, am_cV_of ?_, by rw [eg3, up_1, eg2, up_1]; exact r2, fun q hq => ?_, xH_mk (by rw [eg3]; exact up_self) (fun i hi => absurd hi (Nat.not_lt_zero i)), ?_⟩
  · rw [en_lr_init, B_lr_init_0, hp, r1, Option.bind_some, e1, Option.bind_some, e2, Option.bind_some]
  · rw [eg3, up_ne (by omega), eg2, up_ne (by omega), r3 q (by omega)]
    exact n1 q hq
  · obtain ⟨W, N, ⟨w1, w2, w3, w4⟩, w5⟩ := r4
    refine ⟨W, N, ⟨?_, ?_, ?_, w4⟩, w5⟩
    · rw [eg3, up_ne (by omega), eg2, up_ne (by omega)]; exact w1
    · rw [eg3, up_ne (by omega), eg2, up_ne (by omega)]; exact w2
    · rw [eg3, up_ne (by omega), eg2, up_ne (by omega)]; exact w3
end INI
