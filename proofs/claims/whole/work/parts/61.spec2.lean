/-! what states, arcs, counts answer -/
def fn (ws : List wd) (s : Nat) : Nat := (fst ws).getD s 0
def lgt (ws : List wd) (p : List Int) : Int := (sb ws p).foldl (fun b q => am_max b ((q.1.length : Int) - p.length)) (-2)
def sht (ws : List wd) (p : List Int) : Int := (sb ws p).foldl (fun b q => if b = -2 ∨ (q.1.length : Int) - p.length < b then (q.1.length : Int) - p.length else b) (-2)
def grt (ws : List wd) (p : List Int) : Int := (sb ws p).foldl (fun b q => am_max b (q.2 - lst ws p)) (-2)
def aTo (ws : List wd) (s : Int) : Int := fi (fun b c => if (stt ws c : Int) = s ∧ fn ws (stt ws (pr ws c)) = pr ws c then b + 1 else b) 1 (nN ws - 1) 0
def sBg (ws : List wd) (s : Int) : Int := fi (fun b k => if (stt ws k : Int) = s then am_min b ((pn ws k).length : Int) else b) 0 (nN ws) 10
def nBg (ws : List wd) (s : Int) : Int := fi (fun b k => if (stt ws k : Int) = s then b + 1 else b) 0 (nN ws) 0
/-- the nodes to which arcs go, state by state -/
def al (ws : List wd) : List Nat := (fst ws).flatMap (kd ws)
noncomputable section
def sp_state (s : Sta) : Int × Sta := if allL s.1 then (@ite _ (bg s.2.1 (lw s.1)) (cdec _) (stt s.2.1 (ix s.2.1 (lw s.1)) : Int) (-2), noT s) else (-1, noT s)
def arcA (ws : List wd) (n : Nat) (k w : Int) : Int := if k = -1 then ((kd ws n).length : Int) else if 0 ≤ k ∧ k < (kd ws n).length then
  (if w = 0 then ll ws ((kd ws n).getD k.toNat 0) else if w = 1 then lst ws (pn ws ((kd ws n).getD k.toNat 0)) - lst ws (pn ws n) else if w = 2 then (stt ws ((kd ws n).getD k.toNat 0) : Int) else -1) else -1
def sp_arc (x k w : Int) (s : Sta) : Int × Sta := if 0 ≤ x ∧ x < nS s.2.1 then (arcA s.2.1 (fn s.2.1 x.toNat) k w, s) else (-1, s)
def abA (ws : List wd) (x w : Int) (n : Nat) : Int := if w = 0 then en ws (pn ws n) else if w = 1 then ((sb ws (pn ws n)).length : Int) else if w = 2 then lgt ws (pn ws n) else if w = 3 then sht ws (pn ws n) else if w = 4 then aTo ws x else if w = 5 then sBg ws x else if w = 6 then grt ws (pn ws n) else if w = 7 then nBg ws x else -1
def sp_about (x w : Int) (s : Sta) : Int × Sta := if 0 ≤ x ∧ x < nS s.2.1 then (abA s.2.1 x w (fn s.2.1 x.toNat), s) else (-1, s)
def bit3 (sh : Nat → Option (List wd)) : Int := (if sh 0 = none then 0 else 1) + (if sh 1 = none then 0 else 2) + (if sh 2 = none then 0 else 4)
def sumN (ws : List wd) : Int := ws.foldl (fun s q => s + q.2) 0
def coA (w : Int) (s : Sta) : Int := if w = 0 then (s.2.1.length : Int) else if w = 1 then (nS s.2.1 : Int) else if w = 2 then ((al s.2.1).length : Int) else if w = 3 then lst s.2.1 [] else if w = 4 then sumN s.2.1 else if w = 5 then (s.2.2.1.length : Int) else if w = 6 then (nO s.2.2.1 : Int) else if w = 7 then (nC s.2.2.1 : Int) else if w = 8 then (s.2.2.2.1.length : Int) else if w = 9 then bit3 s.2.2.2.2 else if w = 10 then (s.1.length : Int) else if w = 11 then (nN s.2.1 : Int) else -1
def sp_count (w : Int) (s : Sta) : Int × Sta := (coA w s, s)
end
theorem fi_cnt {P : Nat → Prop} [DecidablePred P] : ∀ (n a : Nat) (acc : Int), fi (fun b c => if P c then b + 1 else b) a n acc = acc + (((List.range' a n).filter (fun c => decide (P c))).length : Int)
  | 0, a, acc => by simp [fi]
  | n + 1, a, acc => by
    rw [fi, fi_cnt n (a + 1), List.range'_succ, List.filter_cons]
    by_cases c : P a
    · rw [if_pos c, if_pos (decide_eq_true c), List.length_cons]; omega
    · rw [if_neg c, if_neg (fun h => c (of_decide_eq_true h))]
/-- the kids are found from the node on -/
theorem kd_rg {ws : List wd} (hs : so ws) {k : Nat} (hk : k < nN ws) : (List.range' (k + 1) (nN ws - (k + 1))).filter (fun c => decide (pr ws c = k)) = kd ws k := by
  refine pw_ext (r := (· < ·)) (fun x y g1 g2 => by omega) _ _ (List.Pairwise.filter _ List.pairwise_lt_range') (kd_srt k) (fun c => ?_)
  rw [List.mem_filter, List.mem_range'_1, decide_eq_true_eq]
  constructor
  · rintro ⟨h1, h2⟩
    have := (pr_in hs (show c < nN ws by omega) (by omega)).2
    rw [h2] at this
    exact this
  · intro h
    have h1 := kd_lt h
    have h2 := kd_in hs hk h
    exact ⟨by omega, (kd_pr h).1⟩
def nth (P : Nat → Bool) : Nat → Nat → Int → Int
  | _, 0, _ => -1
  | a, n + 1, k => if P a = true then (if k = 0 then (a : Int) else nth P (a + 1) n (k - 1)) else nth P (a + 1) n k
def oc : Option Nat → Int
  | some c => (c : Int)
  | none => -1
theorem nth_get {P : Nat → Bool} : ∀ (n a k : Nat), nth P a n (k : Int) = oc ((List.range' a n).filter P)[k]?
  | 0, a, k => by simp [nth, oc]
  | n + 1, a, k => by
    rw [nth, List.range'_succ, List.filter_cons]
    by_cases c : P a = true
    · rw [if_pos c, if_pos c]
      cases k with
      | zero => rw [if_pos (show ((0 : Nat) : Int) = 0 from rfl)]; rfl
      | succ k =>
        rw [if_neg (by omega), List.getElem?_cons_succ, show ((k + 1 : Nat) : Int) - 1 = (k : Int) by omega]
        exact nth_get n (a + 1) k
    · rw [if_neg c, if_neg c]
      exact nth_get n (a + 1) k
theorem fst_lt {ws : List wd} {s : Nat} (h : s < nS ws) : fn ws s < nN ws ∧ (fst ws)[s]? = some (fn ws s) := by
  have hg : (fst ws)[s]? = some (fst ws)[s] := List.getElem?_eq_getElem h
  have e : fn ws s = (fst ws)[s] := by unfold fn; rw [List.getD_eq_getElem?_getD, hg]; rfl
  rw [e]
  exact ⟨(rl_lt (List.getElem_mem h)).1, hg⟩
theorem stt_lt {ws : List wd} {k : Nat} (h : k < nN ws) : stt ws k < nS ws := sx_lt (eR_eqv ws) h rfl
theorem nS_le {ws : List wd} (h : ok ws) : nS ws ≤ 1001 := by
  have := rl_len (e := eR ws) (P := tt) (nN ws)
  have h9 : nN ws ≤ 1001 := ND_len h
  have e : nS ws = (rl (eR ws) tt (nN ws)).length := rfl
  omega
theorem bg_dec {ws : List wd} (hs : so ws) {p : List Int} : bg ws p ↔ ∃ k, k < nN ws ∧ pn ws k = p := by
  constructor
  · intro h; exact ⟨ix ws p, ix_lt hs h, pn_ix hs h⟩
  · rintro ⟨k, h1, h2⟩; rw [← h2]; exact pn_bg h1
/-- the first word of a node -/
theorem lo_get {ws : List wd} (hs : so ws) {p : List Int} (h : sb ws p ≠ []) : ∃ q, ws[ah ws p]? = some q ∧ p <+: q.1 := by
  have hp := List.length_pos_iff.mpr h
  have hle := sb_le hs p
  have hg : ws[ah ws p]? = some (ws[ah ws p]'(by omega)) := List.getElem?_eq_getElem (by omega)
  exact ⟨_, hg, (sb_iff hs p hg).mpr ⟨Nat.le_refl _, by omega⟩⟩
theorem pf_getD {p q : List Int} (h : p <+: q) {i : Nat} (hi : i < p.length) : q.getD i 0 = p.getD i 0 := by
  obtain ⟨t, rfl⟩ := h
  exact gd_l hi
theorem ll_get {ws : List wd} {c : Nat} (h : pn ws c ≠ []) : ll ws c = (pn ws c).getD ((pn ws c).length - 1) 0 := by
  unfold ll
  rw [List.getLastD_eq_getLast?, List.getLast?_eq_getElem?, List.getD_eq_getElem?_getD]
