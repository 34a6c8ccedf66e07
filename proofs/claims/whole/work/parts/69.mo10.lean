/-! list: the model's -/
/-- the place behind those of which P holds, from a place on -/
def rn (P : Int → Bool) (t : List Int) (n : Nat) : Nat := n + ((t.drop n).takeWhile P).length
theorem rn_step {P : Int → Bool} {t : List Int} {n : Nat} (h : n < t.length) : rn P t n = if P (t.getD n 0) = true then rn P t (n + 1) else n := by
  unfold rn
  rw [List.drop_eq_getElem_cons h, List.takeWhile_cons, List.getD_eq_getElem?_getD, List.getElem?_eq_getElem h, Option.getD_some]
  split
  · rw [List.length_cons]; omega
  · rfl
theorem rn_end {P : Int → Bool} {t : List Int} {n : Nat} (h : t.length ≤ n) : rn P t n = n := by
  unfold rn
  rw [List.drop_eq_nil_of_le h]
  rfl
theorem rn_ge (P : Int → Bool) (t : List Int) (n : Nat) : n ≤ rn P t n := by unfold rn; omega
theorem rn_le (P : Int → Bool) (t : List Int) {n : Nat} (h : n ≤ t.length) : rn P t n ≤ t.length := by
  unfold rn
  have := (List.takeWhile_sublist (l := t.drop n) P).length_le
  rw [List.length_drop] at this
  omega
theorem rn_in {P : Int → Bool} {t : List Int} {n i : Nat} (h1 : n ≤ i) (h2 : i < rn P t n) : i < t.length ∧ P (t.getD i 0) = true := by
  have key : ∀ (k n : Nat), i - n ≤ k → n ≤ i → i < rn P t n → i < t.length ∧ P (t.getD i 0) = true := by
    intro k
    induction k with
    | zero =>
      intro n hk h1 h2
      have : n = i := by omega
      subst this
      by_cases c : n < t.length
      · rw [rn_step c] at h2
        by_cases c2 : P (t.getD n 0) = true
        · exact ⟨c, c2⟩
        · rw [if_neg c2] at h2; omega
      · rw [rn_end (by omega)] at h2; omega
    | succ k ih =>
      intro n hk h1 h2
      by_cases c : n < t.length
      · rw [rn_step c] at h2
        by_cases c2 : P (t.getD n 0) = true
        · rw [if_pos c2] at h2
          by_cases e : n = i
          · subst e; exact ⟨c, c2⟩
          · exact ih (n + 1) (by omega) (by omega) h2
        · rw [if_neg c2] at h2; omega
      · rw [rn_end (by omega)] at h2; omega
  exact key (i - n) n (Nat.le_refl _) h1 h2
theorem rn_out {P : Int → Bool} {t : List Int} {n : Nat} (hP : P (-1) = false) (h : n ≤ t.length) : P (tb t (rn P t n : Int)) = false := by
  have key : ∀ (k n : Nat), t.length - n ≤ k → n ≤ t.length → P (tb t (rn P t n : Int)) = false := by
    intro k
    induction k with
    | zero =>
      intro n hk h
      rw [rn_end (by omega)]
      unfold tb
      rw [if_neg (by omega)]
      exact hP
    | succ k ih =>
      intro n hk h
      by_cases c : n < t.length
      · rw [rn_step c]
        by_cases c2 : P (t.getD n 0) = true
        · rw [if_pos c2]; exact ih (n + 1) (by omega) (by omega)
        · rw [if_neg c2, tb_get c]; exact Bool.eq_false_iff.mpr c2
      · rw [rn_end (by omega)]
        unfold tb
        rw [if_neg (by omega)]
        exact hP
  exact key _ n (Nat.le_refl _) h
def isS (x : Int) : Bool := decide (x = 32)
def isD (x : Int) : Bool := decide (48 ≤ x ∧ x ≤ 57)
theorem isS_iff {x : Int} : isS x = true ↔ x = 32 := by unfold isS; exact decide_eq_true_iff
theorem isD_iff {x : Int} : isD x = true ↔ 48 ≤ x ∧ x ≤ 57 := by unfold isD; exact decide_eq_true_iff
def dv1 (v x : Int) : Int := if 999999 < v then v else 10 * v + x - 48
/-- the number that k digits tell (or one too great) -/
def dval (t : List Int) (c k : Nat) : Int := ((t.drop c).take k).foldl dv1 0
theorem dval_s {t : List Int} {c k : Nat} (h : c + k < t.length) : dval t c (k + 1) = dv1 (dval t c k) (t.getD (c + k) 0) := by
  unfold dval
  have hg : (t.drop c)[k]? = some (t.getD (c + k) 0) := by rw [List.getElem?_drop, gd_s h]; exact List.getElem?_eq_getElem h
  rw [tk_s hg, List.foldl_append, List.foldl_cons, List.foldl_nil]
theorem dval_bd {t : List Int} {c : Nat} : ∀ k, c + k ≤ t.length → (∀ i, i < k → 48 ≤ t.getD (c + i) 0 ∧ t.getD (c + i) 0 ≤ 57) → 0 ≤ dval t c k ∧ dval t c k ≤ 9999999
  | 0, _, _ => by unfold dval; rw [List.take_zero]; decide
  | k + 1, h, hd => by
    have ih := dval_bd k (by omega) (fun i hi => hd i (by omega))
    have h2 := hd k (by omega)
    rw [dval_s (by omega)]
    unfold dv1
    split <;> omega
abbrev itr : Type := Int ⊕ (Nat × (List wd × List wd))
/-- one item from a place on; told so far, all words; a fault, or the place behind it and both -/
def itm (t : List Int) (a : Nat) (rd cu : List wd) : itr :=
  if isL (tb t (rn isS t a : Int)) = false then .inl (8 * (rn isS t a : Int) + 1)
  else if 10 < le t (rn isS t a) - rn isS t a then .inl (8 * (rn isS t a : Int) + 2)
  else if nu rd (spl t (rn isS t a) (le t (rn isS t a) - rn isS t a)) ≠ none then .inl (8 * (rn isS t a : Int) + 3)
  else if nu cu (spl t (rn isS t a) (le t (rn isS t a) - rn isS t a)) = none ∧ 100 ≤ cu.length then .inl (8 * (rn isS t a : Int) + 4)
  else if tb t (rn isS t (le t (rn isS t a)) : Int) ≠ 61 then .inr (rn isS t (le t (rn isS t a)), put rd (spl t (rn isS t a) (le t (rn isS t a) - rn isS t a)) 0, put cu (spl t (rn isS t a) (le t (rn isS t a) - rn isS t a)) 0)
  else if isD (tb t (rn isS t (rn isS t (le t (rn isS t a)) + 1) : Int)) = false then .inl (8 * (rn isS t (rn isS t (le t (rn isS t a)) + 1) : Int) + 1)
  else if 999999 < dval t (rn isS t (rn isS t (le t (rn isS t a)) + 1)) (rn isD t (rn isS t (rn isS t (le t (rn isS t a)) + 1)) - rn isS t (rn isS t (le t (rn isS t a)) + 1)) then .inl (8 * (rn isS t (rn isS t (le t (rn isS t a)) + 1) : Int) + 2)
  else .inr (rn isD t (rn isS t (rn isS t (le t (rn isS t a)) + 1)), put rd (spl t (rn isS t a) (le t (rn isS t a) - rn isS t a)) (dval t (rn isS t (rn isS t (le t (rn isS t a)) + 1)) (rn isD t (rn isS t (rn isS t (le t (rn isS t a)) + 1)) - rn isS t (rn isS t (le t (rn isS t a)) + 1))), put cu (spl t (rn isS t a) (le t (rn isS t a) - rn isS t a)) (dval t (rn isS t (rn isS t (le t (rn isS t a)) + 1)) (rn isD t (rn isS t (rn isS t (le t (rn isS t a)) + 1)) - rn isS t (rn isS t (le t (rn isS t a)) + 1))))
def lsi (t : List Int) : Nat → Nat → List wd → List wd → Int ⊕ List wd
  | 0, _, _, _ => .inl 0
  | n + 1, a, rd, cu => match itm t a rd cu with
    | .inl f => .inl f
    | .inr (b, rd', cu') => if tb t (rn isS t b : Int) = 44 then lsi t n (rn isS t b + 1) rd' cu' else if rn isS t b < t.length then .inl (8 * (rn isS t b : Int) + 1) else .inr cu'
def rdL (t : List Int) (ws : List wd) : Int ⊕ List wd := lsi t (t.length + 1) 0 [] ws
def sp_list (s : Sta) : Int × Sta := match rdL s.1 s.2.1 with
  | .inl f => (-2 - f, noT s)
  | .inr ws' => ((ws'.length : Int), act [] ws' s.2.2.1 s)
/-- what holds of both while a list is read -/
def rdI (rd cu : List wd) : Prop := ((∀ p ∈ rd, wk p) ∧ so rd) ∧ ok cu ∧ ∀ p ∈ rd, ∃ n, (p.1, n) ∈ cu
theorem sub_len {rd cu : List wd} (hs : so rd) (h : ∀ p ∈ rd, ∃ n, (p.1, n) ∈ cu) : rd.length ≤ cu.length := by
  have h1 : (rd.map (fun p => p.1)).Nodup := by
    unfold List.Nodup
    rw [List.pairwise_map]
    refine List.Pairwise.imp (fun {a b} hab e => ?_) hs
    rw [e, lx_irr] at hab
    exact Bool.noConfusion hab
  have h2 : rd.map (fun p => p.1) ⊆ cu.map (fun p => p.1) := by
    intro x hx
    obtain ⟨p, hp, rfl⟩ := List.mem_map.mp hx
    obtain ⟨n, hn⟩ := h p hp
    exact List.mem_map.mpr ⟨_, hn, rfl⟩
  have := h1.length_le_of_subset h2
  rwa [List.length_map, List.length_map] at this
theorem nu_no {ws : List wd} (hs : so ws) {t : List Int} (h : nu ws t = none) (n : Int) : (t, n) ∉ ws := fun g => by
  rw [(nu_mem hs).mpr g] at h
  simp at h
/-- a word told for the first time -/
theorem rdI_put {rd cu : List wd} (h : rdI rd cu) {w : List Int} {n : Int} (hk : wk (w, n)) (h1 : nu rd w = none) (h2 : nu cu w = none → cu.length < 100) : rdI (put rd w n) (put cu w n) ∧ rd.length < 100 := by
  obtain ⟨⟨a1, a2⟩, b, c⟩ := h
  have ho := put_ok b hk h2
  have hsub : ∀ p ∈ put rd w n, ∃ m, (p.1, m) ∈ put cu w n := by
    intro p hp
    by_cases e : p.1 = w
    · exact ⟨n, (put_mem' b.2.1).mpr (Or.inl ⟨e, rfl⟩)⟩
    · rcases put_mem hp with g | g
      · obtain ⟨m, hm⟩ := c p g
        exact ⟨m, (put_mem' b.2.1).mpr (Or.inr ⟨e, hm⟩)⟩
      · rw [g] at e; exact absurd rfl e
  refine ⟨⟨⟨put_wk a1 hk, put_so a2 _ _⟩, ho, hsub⟩, ?_⟩
  have h3 := sub_len (put_so a2 w n) hsub
  rw [put_len, if_pos h1] at h3
  have := ho.2.2
  omega
theorem spl_wk {t : List Int} {a : Nat} (h1 : isL (tb t (a : Int)) = true) (h2 : ¬ 10 < le t a - a) {n : Int} (hn : 0 ≤ n ∧ n ≤ 999999) : wk (spl t a (le t a - a), n) ∧ a < le t a ∧ le t a ≤ t.length := by
  have ha : a < t.length := by
    rcases Nat.lt_or_ge a t.length with g | g
    · exact g
    · unfold tb at h1
      rw [if_neg (by omega)] at h1
      exact absurd h1 (by decide)
  have hle : le t a ≤ t.length := rn_le isL t (by omega)
  have hgt : a < le t a := by
    have : le t a = rn isL t a := rfl
    rw [tb_get ha] at h1
    rw [this, rn_step ha, if_pos h1]
    exact rn_ge isL t (a + 1)
  refine ⟨⟨spl_wl (fun i g1 g2 g3 => (rn_in (P := isL) g1 (show i < le t a by omega)).2), ?_, ?_, hn.1, hn.2⟩, hgt, hle⟩
  · intro e
    have := congrArg List.length e
    dsimp only at this
    rw [spl_len (by omega), List.length_nil] at this
    omega
  · dsimp only
    rw [spl_len (by omega)]
    omega
theorem itm_ok {t : List Int} {a b : Nat} {rd cu rd' cu' : List wd} (ha : a ≤ t.length) (h : rdI rd cu) (e : itm t a rd cu = .inr (b, rd', cu')) : rdI rd' cu' ∧ a < b ∧ b ≤ t.length := by
  unfold itm at e
  split at e; · simp at e
  next c1 =>
  split at e; · simp at e
  next c2 =>
  split at e; · simp at e
  next c3 =>
  split at e; · simp at e
  next c4 =>
  have c3' := Decidable.not_not.mp c3
  have c4' : nu cu (spl t (rn isS t a) (le t (rn isS t a) - rn isS t a)) = none → cu.length < 100 := fun g => by
    have : ¬ 100 ≤ cu.length := fun g2 => c4 ⟨g, g2⟩
    omega
  have g1 := rn_ge isS t a
  have g2 := rn_le isS t ha
  split at e
  · next c5 =>
    injection e with e
    injection e with e1 e
    injection e with e2 e3
    obtain ⟨k1, k2, k3⟩ := spl_wk (n := 0) (by simpa using c1) c2 (by decide)
    have := rn_ge isS t (le t (rn isS t a))
    have := rn_le isS t k3
    subst e1 e2 e3
    exact ⟨(rdI_put h k1 c3' c4').1, by omega, by omega⟩
  · next c5 =>
    split at e; · simp at e
    next c6 =>
    split at e; · simp at e
    next c7 =>
    injection e with e
    injection e with e1 e
    injection e with e2 e3
    obtain ⟨k1, k2, k3⟩ := spl_wk (n := 0) (by simpa using c1) c2 (by decide)
    have g3 := rn_ge isS t (le t (rn isS t a))
    have g4 := rn_le isS t k3
    have g5 : rn isS t (le t (rn isS t a)) < t.length := by
      rcases Nat.lt_or_ge (rn isS t (le t (rn isS t a))) t.length with g | g
      · exact g
      · have c5' := Decidable.not_not.mp c5
        unfold tb at c5'
        rw [if_neg (by omega)] at c5'
        omega
    have g6 := rn_ge isS t (rn isS t (le t (rn isS t a)) + 1)
    have g7 := rn_le isS t (n := rn isS t (le t (rn isS t a)) + 1) (by omega)
    generalize rn isS t (rn isS t (le t (rn isS t a)) + 1) = c at *
    have g8 := rn_ge isD t c
    have g9 := rn_le isD t g7
    have hv := dval_bd (t := t) (c := c) (rn isD t c - c) (by omega) (fun i hi => isD_iff.mp (rn_in (P := isD) (show c ≤ c + i by omega) (by omega)).2)
    obtain ⟨k4, _, _⟩ := spl_wk (n := dval t c (rn isD t c - c)) (by simpa using c1) c2 ⟨hv.1, by omega⟩
    subst e1 e2 e3
    exact ⟨(rdI_put h k4 c3' c4').1, by omega, by omega⟩
theorem lsi_ok {t : List Int} : ∀ (n a : Nat) (rd cu ws' : List wd), a ≤ t.length → rdI rd cu → lsi t n a rd cu = .inr ws' → ok ws'
  | 0, a, rd, cu, ws', _, _, h => by simp [lsi] at h
  | n + 1, a, rd, cu, ws', ha, hI, h => by
    rw [lsi] at h
    cases e : itm t a rd cu with
    | inl f => rw [e] at h; simp at h
    | inr r =>
      obtain ⟨b, rd', cu'⟩ := r
      rw [e] at h
      dsimp only at h
      obtain ⟨h1, h2, h3⟩ := itm_ok ha hI e
      split at h
      · next c =>
        have : rn isS t b < t.length := by
          rcases Nat.lt_or_ge (rn isS t b) t.length with g | g
          · exact g
          · unfold tb at c; rw [if_neg (by omega)] at c; omega
        exact lsi_ok n _ rd' cu' ws' (by omega) h1 h
      · split at h
        · simp at h
        · injection h with h
          rw [← h]
          exact h1.2.1
theorem rdI_0 {ws : List wd} (h : ok ws) : rdI [] ws := ⟨⟨fun p hp => by simp at hp, List.Pairwise.nil⟩, h, fun p hp => by simp at hp⟩
theorem ok_list {s : Sta} (h : okT s) : okT (sp_list s).2 := by
  unfold sp_list
  cases e : rdL s.1 s.2.1 with
  | inl f => exact ok_noT h
  | inr ws' => exact ok_act h ⟨by simp, fun x hx => by simp at hx⟩ (lsi_ok _ _ _ _ _ (Nat.zero_le _) (rdI_0 h.2.1) e) h.2.2.1
