/-! what the calls answer, and what they leave: told of tape, words, builder, acts, shelves -/
abbrev Sta : Type := List Int × (List wd × (List wd × (List (List wd × List wd) × (Nat → Option (List wd)))))
def isW (t : List Int) : Prop := (1 ≤ t.length ∧ t.length ≤ 10) ∧ allL t
theorem isW_wl {t : List Int} (h : isW t) : wl (lw t) := lw_wl h.2
def okT (s : Sta) : Prop := okS s.1 s.2.1 s.2.2.1 s.2.2.2.1 s.2.2.2.2
def MS (S : Nat → Nat → Int) (s : Sta) : Prop := MR S s.1 s.2.1 s.2.2.1 s.2.2.2.1 s.2.2.2.2
/-- the state behind an act -/
def act (t : List Int) (ws' bs' : List wd) (s : Sta) : Sta := (t, ws', bs', hpush s.2.2.2.1 (s.2.1, s.2.2.1), s.2.2.2.2)
def noT (s : Sta) : Sta := ([], s.2)
noncomputable section
def sp_feed (a b c d e : Int) (s : Sta) : Int × Sta := if s.1.length ≤ 380 then ((s.1.length : Int) + 20, (s.1 ++ by20 a b c d e, s.2)) else (-1, s)
def sp_end (n : Int) (s : Sta) : Int × Sta := if 0 ≤ n ∧ n ≤ s.1.length then (n, (s.1.take n.toNat, s.2)) else (-1, s)
def sp_octet (k : Int) (s : Sta) : Int × Sta := (tb s.1 k, s)
def cdec (p : Prop) : Decidable p := Classical.propDecidable p
def sp_put (x : Int) (s : Sta) : Int × Sta := @ite _ (isW s.1 ∧ (0 ≤ x ∧ x ≤ 999999)) (cdec _)
  (if nu s.2.1 (lw s.1) = some x then (-2, noT s) else if nu s.2.1 (lw s.1) = none ∧ s.2.1.length = 100 then (-1, noT s) else ((nS (put s.2.1 (lw s.1) x) : Int), act [] (put s.2.1 (lw s.1) x) s.2.2.1 s)) (-1, noT s)
def sp_cut (s : Sta) : Int × Sta := @ite _ (isW s.1) (cdec _)
  (if nu s.2.1 (lw s.1) = none then (-1, noT s) else ((nS (s.2.1.eraseIdx (ah s.2.1 (lw s.1))) : Int), act [] (s.2.1.eraseIdx (ah s.2.1 (lw s.1))) s.2.2.1 s)) (-1, noT s)
def rsd (d : Int) (ws : List wd) : List wd := ws.map (fun p => (p.1, p.2 + d))
def sp_raise (d : Int) (s : Sta) : Int × Sta := @ite _ (s.2.1 ≠ [] ∧ (d ≠ 0 ∧ ∀ p ∈ s.2.1, 0 ≤ p.2 + d ∧ p.2 + d ≤ 999999)) (cdec _) (lst (rsd d s.2.1) [], act s.1 (rsd d s.2.1) s.2.2.1 s) (-1, s)
/-- the last word of a list; of no letters without one -/
def lastw (bs : List wd) : List Int := (bs.getLastD ([], 0)).1
def sp_append (x : Int) (s : Sta) : Int × Sta := @ite _ (isW s.1 ∧ ((0 ≤ x ∧ x ≤ 999999) ∧ s.2.2.1.length < 100)) (cdec _)
  (if s.2.2.1 ≠ [] ∧ lx (lastw s.2.2.1) (lw s.1) = false then (-2, noT s) else ((nO (s.2.2.1 ++ [(lw s.1, x)]) : Int) + (nC (s.2.2.1 ++ [(lw s.1, x)]) : Int), ([], s.2.1, s.2.2.1 ++ [(lw s.1, x)], s.2.2.2.1, s.2.2.2.2))) (-1, noT s)
def sp_finish (s : Sta) : Int × Sta := if s.2.2.1 = [] then (-1, s) else ((nS s.2.2.1 : Int), act s.1 s.2.2.1 [] s)
def sp_undo (s : Sta) : Int × Sta := match s.2.2.2.1.getLast? with
  | none => (-1, s)
  | some p => ((s.2.2.2.1.dropLast.length : Int), (s.1, p.1, p.2, s.2.2.2.1.dropLast, s.2.2.2.2))
def shp (sh : Nat → Option (List wd)) (k : Nat) (ws : List wd) : Nat → Option (List wd) := fun j => if j = k then some ws else sh j
def sp_keep (k : Int) (s : Sta) : Int × Sta := if 0 ≤ k ∧ k ≤ 2 then ((s.2.1.length : Int), (s.1, s.2.1, s.2.2.1, s.2.2.2.1, shp s.2.2.2.2 k.toNat s.2.1)) else (-1, s)
def sp_same (k : Int) (s : Sta) : Int × Sta := if 0 ≤ k ∧ k ≤ 2 then (match s.2.2.2.2 k.toNat with
  | none => (-2, s)
  | some v => (if s.2.1 = v then 1 else 0, s)) else (-1, s)
def sp_number (s : Sta) : Int × Sta := @ite _ (isW s.1) (cdec _) ((nu s.2.1 (lw s.1)).getD (-2), noT s) (-1, noT s)
def sp_rank (s : Sta) : Int × Sta := if s.1.length ≤ 60 ∧ allL s.1 then ((ah s.2.1 (lw s.1) : Int), noT s) else (-1, noT s)
def wat (ws : List wd) (r : Int) : wd := ws.getD r.toNat ([], 0)
def sp_word (r i : Int) (s : Sta) : Int × Sta := if 0 ≤ r ∧ r < s.2.1.length then (if i = -1 then ((wat s.2.1 r).1.length : Int) else if 0 ≤ i ∧ i < ((wat s.2.1 r).1.length : Int) then (wat s.2.1 r).1.getD i.toNat 0 else -1, s) else (-1, s)
def sp_value (r : Int) (s : Sta) : Int × Sta := if 0 ≤ r ∧ r < s.2.1.length then ((wat s.2.1 r).2, s) else (-1, s)
/-- the first of some places of which P holds -/
def se (P : Nat → Bool) : Nat → Nat → Int
  | _, 0 => -2
  | a, k + 1 => if P a = true then (a : Int) else se P (a + 1) k
def sp_first (x : Int) (s : Sta) : Int × Sta := if 0 ≤ x ∧ x ≤ 999999 then (se (fun i => decide ((s.2.1.getD i ([], 0)).2 = x)) 0 s.2.1.length, s) else (-1, s)
end
theorem se_step {P : Nat → Bool} {k n : Nat} (h : k < n) : se P k (n - k) = if P k = true then (k : Int) else se P (k + 1) (n - (k + 1)) := by
  rw [show n - k = (n - (k + 1)) + 1 by omega]
  rfl
theorem se_end {P : Nat → Bool} {k n : Nat} (h : n ≤ k) : se P k (n - k) = -2 := by rw [Nat.sub_eq_zero_of_le h]; rfl
theorem se_congr {P Q : Nat → Bool} : ∀ (k a : Nat), (∀ i, a ≤ i → i < a + k → P i = Q i) → se P a k = se Q a k
  | 0, a, _ => rfl
  | k + 1, a, h => by
    rw [se, se, h a (Nat.le_refl _) (by omega), se_congr k (a + 1) (fun i h1 h2 => h i (by omega) (by omega))]
-- the states stay well made
theorem ok_noT {s : Sta} (h : okT s) : okT (noT s) := ⟨⟨by simp [noT], fun x hx => by simp [noT] at hx⟩, h.2⟩
theorem ok_act {s : Sta} {t : List Int} {ws' bs' : List wd} (h : okT s) (ht : t.length ≤ 400 ∧ ∀ x ∈ t, 0 ≤ x ∧ x < 256) (hw : ok ws') (hb : ok bs') : okT (act t ws' bs' s) := ⟨ht, hw, hb, hpush_ok h.2.2.2.1.1 h.2.2.2.1.2 ⟨h.2.1, h.2.2.1⟩, h.2.2.2.2⟩
theorem wk_of {t : List Int} {x : Int} (h : isW t) (hx : 0 ≤ x ∧ x ≤ 999999) : wk (lw t, x) := by
  refine ⟨isW_wl h, fun e => ?_, ?_, hx.1, hx.2⟩
  · have := congrArg List.length e
    dsimp only at this
    rw [lw_len, List.length_nil] at this
    have h1 := h.1.1
    omega
  · dsimp only; rw [lw_len]; exact h.1.2
theorem ok_feed {s : Sta} (h : okT s) (a b c d e : Int) : okT (sp_feed a b c d e s).2 := by
  unfold sp_feed
  split
  · refine ⟨⟨?_, fun x hx => ?_⟩, h.2⟩
    · rw [List.length_append]
      have : (by20 a b c d e).length = 20 := rfl
      omega
    · rcases List.mem_append.mp hx with g | g
      · exact h.1.2 x g
      · exact by20_bd x g
  · exact h
theorem ok_end {s : Sta} (h : okT s) (n : Int) : okT (sp_end n s).2 := by
  unfold sp_end
  split
  · refine ⟨⟨?_, fun x hx => h.1.2 x (List.mem_of_mem_take hx)⟩, h.2⟩
    have := h.1.1
    rw [List.length_take]
    omega
  · exact h
theorem ok_put {s : Sta} (h : okT s) (x : Int) : okT (sp_put x s).2 := by
  unfold sp_put
  split
  · next c =>
    split
    · exact ok_noT h
    · split
      · exact ok_noT h
      · next c2 c3 =>
        have hl := h.2.1.2.2
        exact ok_act h ⟨by simp, fun x hx => by simp at hx⟩ (put_ok h.2.1 (wk_of c.1 c.2) (fun g => by
          have : s.2.1.length ≠ 100 := fun e => c3 ⟨g, e⟩
          omega)) h.2.2.1
  · exact ok_noT h
theorem ok_cut {s : Sta} (h : okT s) : okT (sp_cut s).2 := by
  unfold sp_cut
  split
  · split
    · exact ok_noT h
    · exact ok_act h ⟨by simp, fun x hx => by simp at hx⟩ (er_ok h.2.1 _) h.2.2.1
  · exact ok_noT h
theorem ok_raise {s : Sta} (h : okT s) (d : Int) : okT (sp_raise d s).2 := by
  unfold sp_raise
  split
  · next c =>
    refine ok_act h h.1 ⟨fun p hp => ?_, ?_, ?_⟩ h.2.2.1
    · obtain ⟨q, hq, rfl⟩ := List.mem_map.mp hp
      obtain ⟨a1, a2, a3, _⟩ := h.2.1.1 q hq
      exact ⟨a1, a2, a3, (c.2.2 q hq).1, (c.2.2 q hq).2⟩
    · unfold so rsd
      rw [List.pairwise_map]
      exact h.2.1.2.1
    · unfold rsd
      rw [List.length_map]
      exact h.2.1.2.2
  · exact h
theorem so_snoc {bs : List wd} (hs : so bs) {q : wd} (h : bs ≠ [] → lx (lastw bs) q.1 = true) : so (bs ++ [q]) := by
  unfold so
  rw [List.pairwise_append]
  refine ⟨hs, by simp, fun a ha b hb => ?_⟩
  rw [List.mem_singleton.mp hb]
  have hne : bs ≠ [] := fun e => by rw [e] at ha; simp at ha
  have hl := h hne
  have hlp := List.length_pos_iff.mpr hne
  obtain ⟨i, hi⟩ := List.getElem?_of_mem ha
  have hlt := (List.getElem?_eq_some_iff.mp hi).1
  have hg : bs[bs.length - 1]? = some (bs.getLastD ([], 0)) := by
    rw [← List.getLast?_eq_getElem?, List.getLastD_eq_getLast?]
    cases e : bs.getLast? with
    | none => rw [List.getLast?_eq_none_iff] at e; exact absurd e hne
    | some x => rfl
  by_cases c : i = bs.length - 1
  · rw [c, hg] at hi
    injection hi with hi
    rw [← hi]
    exact hl
  · exact lx_tr _ _ _ (so_get hs (show i < bs.length - 1 by omega) hi hg) hl
theorem ok_append {s : Sta} (h : okT s) (x : Int) : okT (sp_append x s).2 := by
  unfold sp_append
  split
  · next c =>
    split
    · exact ok_noT h
    · next c2 =>
      refine ⟨⟨by simp, fun x hx => by simp at hx⟩, h.2.1, ⟨fun p hp => ?_, so_snoc h.2.2.1.2.1 (fun g => ?_), ?_⟩, h.2.2.2⟩
      · rcases List.mem_append.mp hp with g | g
        · exact h.2.2.1.1 p g
        · rw [List.mem_singleton.mp g]; exact wk_of c.1 c.2.1
      · rcases Bool.eq_false_or_eq_true (lx (lastw s.2.2.1) (lw s.1)) with e | e
        · exact e
        · exact absurd ⟨g, e⟩ c2
      · dsimp only
        rw [List.length_append, List.length_singleton]
        have := c.2.2
        omega
  · exact ok_noT h
theorem ok_finish {s : Sta} (h : okT s) : okT (sp_finish s).2 := by
  unfold sp_finish
  split
  · exact h
  · exact ok_act h h.1 h.2.2.1 ok_nil
theorem ok_undo {s : Sta} (h : okT s) : okT (sp_undo s).2 := by
  unfold sp_undo
  cases e : s.2.2.2.1.getLast? with
  | none => exact h
  | some p =>
    have hp := h.2.2.2.1.2 p (List.mem_of_getLast? e)
    refine ⟨h.1, hp.1, hp.2, ⟨?_, fun q hq => h.2.2.2.1.2 q ((List.dropLast_sublist _).subset hq)⟩, h.2.2.2.2⟩
    have := h.2.2.2.1.1
    dsimp only
    rw [List.length_dropLast]
    omega
theorem ok_keep {s : Sta} (h : okT s) (k : Int) : okT (sp_keep k s).2 := by
  unfold sp_keep
  split
  · refine ⟨h.1, h.2.1, h.2.2.1, h.2.2.2.1, fun j v hv => ?_⟩
    dsimp only [shp] at hv
    split at hv
    · injection hv with hv; rw [← hv]; exact h.2.1
    · exact h.2.2.2.2 j v hv
  · exact h
