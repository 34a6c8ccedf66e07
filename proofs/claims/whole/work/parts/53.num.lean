/-! numbering: nodes that are alike have one number, in the order in which they first come -/
/-- those of the first n (of which P) to which none ahead is like -/
def rl (e : Nat → Nat → Bool) (P : Nat → Bool) : Nat → List Nat
  | 0 => []
  | k + 1 => if P k = true ∧ (rl e P k).any (fun j => e j k) = false then rl e P k ++ [k] else rl e P k
def sx (e : Nat → Nat → Bool) (P : Nat → Bool) (k : Nat) : Nat := (rl e P k).findIdx (fun j => e j k)
/-- an equivalence -/
def eqv (e : Nat → Nat → Bool) : Prop := (∀ i, e i i = true) ∧ (∀ i j, e i j = true → e j i = true) ∧ ∀ i j k, e i j = true → e j k = true → e i k = true
section RL
variable {e : Nat → Nat → Bool} {P : Nat → Bool}
theorem rl_pre {k n : Nat} (h : k ≤ n) : rl e P k <+: rl e P n := by
  induction h with
  | refl => exact List.prefix_refl _
  | step _ ih =>
    refine ih.trans ?_
    rw [rl]
    split
    · exact List.prefix_append _ _
    · exact List.prefix_refl _
theorem rl_lt {n j : Nat} (h : j ∈ rl e P n) : j < n ∧ P j = true := by
  induction n with
  | zero => simp [rl] at h
  | succ n ih =>
    rw [rl] at h
    split at h
    · next c =>
      rcases List.mem_append.mp h with g | g
      · have := ih g; exact ⟨by omega, this.2⟩
      · rw [List.mem_singleton.mp g]; exact ⟨by omega, c.1⟩
    · have := ih h; exact ⟨by omega, this.2⟩
theorem rl_len (n : Nat) : (rl e P n).length ≤ n := by
  induction n with
  | zero => simp [rl]
  | succ n ih =>
    rw [rl]
    split
    · rw [List.length_append, List.length_singleton]; omega
    · omega
theorem rl_cov (he : eqv e) {n k : Nat} (h : k < n) (hP : P k = true) : ∃ j ∈ rl e P n, e j k = true := by
  have h1 : ∃ j ∈ rl e P (k + 1), e j k = true := by
    rw [rl]
    by_cases c : (rl e P k).any (fun j => e j k) = false
    · rw [if_pos ⟨hP, c⟩]
      exact ⟨k, by simp, he.1 k⟩
    · rw [if_neg (fun g => c g.2)]
      have := (Bool.not_eq_false _).mp c
      obtain ⟨j, h1, h2⟩ := List.any_eq_true.mp this
      exact ⟨j, h1, h2⟩
  obtain ⟨j, h2, h3⟩ := h1
  exact ⟨j, (rl_pre (by omega)).subset h2, h3⟩
theorem rl_srt (n : Nat) : (rl e P n).Pairwise (· < ·) := by
  induction n with
  | zero => exact List.Pairwise.nil
  | succ n ih =>
    rw [rl]
    split
    · rw [List.pairwise_append]
      refine ⟨ih, by simp, fun a ha b hb => ?_⟩
      rw [List.mem_singleton.mp hb]
      exact (rl_lt ha).1
    · exact ih
theorem rl_dis {n : Nat} : (rl e P n).Pairwise (fun i j => e i j = false) := by
  induction n with
  | zero => exact List.Pairwise.nil
  | succ n ih =>
    rw [rl]
    split
    · next c =>
      rw [List.pairwise_append]
      refine ⟨ih, by simp, fun a ha b hb => ?_⟩
      rw [List.mem_singleton.mp hb]
      have := List.any_eq_false.mp c.2 a ha
      exact Bool.eq_false_iff.mpr this
    · exact ih
theorem rl_one (he : eqv e) {n s s' j j' k : Nat} (h : (rl e P n)[s]? = some j) (h' : (rl e P n)[s']? = some j') (g : e j k = true) (g' : e j' k = true) : s = s' := by
  have hd := List.pairwise_iff_getElem.mp (rl_dis (e := e) (P := P) (n := n))
  obtain ⟨h1, h2⟩ := List.getElem?_eq_some_iff.mp h
  obtain ⟨h3, h4⟩ := List.getElem?_eq_some_iff.mp h'
  have hj : e j j' = true := he.2.2 _ _ _ g (he.2.1 _ _ g')
  rcases Nat.lt_trichotomy s s' with c | c | c
  · have := hd s s' h1 h3 c
    rw [h2, h4, hj] at this
    exact Bool.noConfusion this
  · exact c
  · have := hd s' s h3 h1 c
    rw [h2, h4, he.2.1 _ _ hj] at this
    exact Bool.noConfusion this
theorem sx_get (he : eqv e) {n k : Nat} (h : k < n) (hP : P k = true) : ∃ j, (rl e P n)[sx e P k]? = some j ∧ e j k = true := by
  have hpre := rl_pre (e := e) (P := P) (show k + 1 ≤ n by omega)
  obtain ⟨t, ht⟩ := hpre
  have key : ∃ j, (rl e P (k + 1))[sx e P k]? = some j ∧ e j k = true := by
    unfold sx
    rw [rl]
    by_cases c : (rl e P k).any (fun j => e j k) = false
    · rw [if_pos ⟨hP, c⟩]
      have h1 : (rl e P k).findIdx (fun j => e j k) = (rl e P k).length := List.findIdx_eq_length_of_false (fun x hx => Bool.eq_false_iff.mpr (List.any_eq_false.mp c x hx))
      rw [h1, List.getElem?_append_right (Nat.le_refl _), Nat.sub_self]
      exact ⟨k, rfl, he.1 k⟩
    · rw [if_neg (fun g => c g.2)]
      have h0 := (Bool.not_eq_false _).mp c
      obtain ⟨j, h1, h2⟩ := List.any_eq_true.mp h0
      have hl := List.findIdx_lt_length_of_exists (xs := rl e P k) (p := fun j => e j k) ⟨j, h1, h2⟩
      exact ⟨_, List.getElem?_eq_getElem hl, List.findIdx_getElem (w := hl)⟩
  obtain ⟨j, h1, h2⟩ := key
  refine ⟨j, ?_, h2⟩
  rw [← ht, List.getElem?_append_left (List.getElem?_eq_some_iff.mp h1).1]
  exact h1
theorem sx_lt (he : eqv e) {n k : Nat} (h : k < n) (hP : P k = true) : sx e P k < (rl e P n).length := by
  obtain ⟨j, h1, _⟩ := sx_get he h hP
  exact (List.getElem?_eq_some_iff.mp h1).1
theorem sx_of (he : eqv e) {n k s j : Nat} (h : k < n) (hP : P k = true) (h1 : (rl e P n)[s]? = some j) (h2 : e j k = true) : s = sx e P k := by
  obtain ⟨j', g1, g2⟩ := sx_get he h hP
  exact rl_one he h1 g1 h2 g2
theorem sx_rl (he : eqv e) {n s j : Nat} (h : (rl e P n)[s]? = some j) : sx e P j = s := by
  have hm := rl_lt (List.mem_of_getElem? h)
  exact (sx_of he hm.1 hm.2 h (he.1 j)).symm
theorem sx_iff (he : eqv e) {i k : Nat} (hi : P i = true) (hk : P k = true) : sx e P i = sx e P k ↔ e i k = true := by
  obtain ⟨a, a1, a2⟩ := sx_get he (show i < max i k + 1 by omega) hi
  obtain ⟨b, b1, b2⟩ := sx_get he (show k < max i k + 1 by omega) hk
  constructor
  · intro h
    rw [h, b1] at a1
    injection a1 with a1
    subst a1
    exact he.2.2 _ _ _ (he.2.1 _ _ a2) b2
  · intro h
    exact rl_one he a1 b1 (he.2.2 _ _ _ a2 h) b2
theorem sx_new {k : Nat} (h : (rl e P k).any (fun j => e j k) = false) : sx e P k = (rl e P k).length :=
  List.findIdx_eq_length_of_false (fun x hx => Bool.eq_false_iff.mpr (List.any_eq_false.mp h x hx))
/-- some by themselves (those of which not P), the others as before -/
theorem rl_open {e' : Nat → Nat → Bool} (h : ∀ i j, i < j → e' i j = (P i && (P j && e i j))) (n : Nat) : (rl e' (fun _ => true) n).filter P = rl e P n ∧ (rl e' (fun _ => true) n).length = ((List.range n).filter (fun k => !P k)).length + (rl e P n).length := by
  induction n with
  | zero => exact ⟨rfl, rfl⟩
  | succ n ih =>
    obtain ⟨ih1, ih2⟩ := ih
    rw [List.range_succ, List.filter_append, List.length_append]
    have hany : (rl e' (fun _ => true) n).any (fun j => e' j n) = (P n && (rl e P n).any (fun j => e j n)) := by
      rw [← ih1, List.any_filter]
      cases hP : P n with
      | false =>
        rw [Bool.false_and, List.any_eq_false]
        intro j hj
        rw [h j n (rl_lt hj).1, hP]
        simp
      | true =>
        rw [Bool.true_and]
        have key : ∀ l : List Nat, (∀ j ∈ l, j < n) → l.any (fun j => e' j n) = l.any (fun j => P j && e j n) := by
          intro l
          induction l with
          | nil => intro _; rfl
          | cons a l ih =>
            intro hl
            rw [List.any_cons, List.any_cons, ih (fun j hj => hl j (List.mem_cons_of_mem _ hj)), h a n (hl a List.mem_cons_self), hP, Bool.true_and]
        exact key _ (fun j hj => (rl_lt hj).1)
    rw [rl, rl, hany]
    cases hP : P n with
    | false =>
      rw [if_pos ⟨rfl, rfl⟩, if_neg (fun g => by simp at g), List.filter_append, List.length_append]
      refine ⟨?_, ?_⟩
      · rw [ih1]; simp [hP]
      · simp [hP]; omega
    | true =>
      rw [Bool.true_and]
      by_cases c : (rl e P n).any (fun j => e j n) = false
      · rw [if_pos ⟨rfl, c⟩, if_pos ⟨rfl, c⟩, List.filter_append, List.length_append, List.length_append]
        refine ⟨?_, ?_⟩
        · rw [ih1]; simp [hP]
        · simp [hP]; omega
      · rw [if_neg (fun g => c g.2), if_neg (fun g => c g.2)]
        exact ⟨ih1, by simp [hP]; omega⟩
end RL
/-- nodes of like rests -/
def eR (ws : List wd) (i j : Nat) : Bool := decide (R ws (pn ws i) = R ws (pn ws j))
theorem eR_eqv (ws : List wd) : eqv (eR ws) := by
  unfold eR
  refine ⟨fun i => by simp, fun i j h => ?_, fun i j k h1 h2 => ?_⟩
  · simp only [decide_eq_true_eq] at h ⊢; exact h.symm
  · simp only [decide_eq_true_eq] at h1 h2 ⊢; exact h1.trans h2
def tt (_ : Nat) : Bool := true
/-- the first nodes of the states, and the state of a node -/
abbrev fst (ws : List wd) : List Nat := rl (eR ws) tt (nN ws)
abbrev stt (ws : List wd) (k : Nat) : Nat := sx (eR ws) tt k
/-- how many states -/
abbrev nS (ws : List wd) : Nat := (fst ws).length
/-- is a node not on the way to the last word -/
def clo (ws : List wd) (k : Nat) : Bool := decide (ah ws (pn ws k) + (sb ws (pn ws k)).length < ws.length)
/-- open and closed states of a builder -/
def nO (ws : List wd) : Nat := if ws = [] then 0 else ((ws.getLastD ([], 0)).1).length + 1
def nC (ws : List wd) : Nat := if ws = [] then 0 else (rl (eR ws) (clo ws) (nN ws)).length
theorem sb_pos {ws : List wd} {p : List Int} (hb : bg ws p) (hn : ws ≠ []) : 0 < (sb ws p).length := by
  refine List.length_pos_iff.mpr (fun e => ?_)
  rcases hb with h | ⟨q, h1, h2⟩
  · obtain ⟨q, hq⟩ := List.exists_mem_of_ne_nil _ hn
    have : q ∈ sb ws p := sb_mem.mpr ⟨hq, by rw [h]; exact List.nil_prefix⟩
    rw [e] at this
    simp at this
  · have : q ∈ sb ws p := sb_mem.mpr ⟨h1, h2⟩
    rw [e] at this
    simp at this
theorem clo_iff {ws : List wd} (hs : so ws) (hn : ws ≠ []) {k : Nat} (hk : k < nN ws) : clo ws k = false ↔ pn ws k <+: (ws.getLastD ([], 0)).1 := by
  have hl := List.length_pos_iff.mpr hn
  have hg : ws[ws.length - 1]? = some (ws.getLastD ([], 0)) := by
    rw [← List.getLast?_eq_getElem?, List.getLastD_eq_getLast?]
    cases e : ws.getLast? with
    | none => rw [List.getLast?_eq_none_iff] at e; exact absurd e hn
    | some x => rfl
  rw [sb_iff hs (pn ws k) hg]
  unfold clo
  have := sb_le hs (pn ws k)
  have := ah_le ws (pn ws k)
  have := sb_pos (pn_bg hk) hn
  rw [decide_eq_false_iff_not]
  omega
theorem open_len {ws : List wd} (hs : so ws) (hn : ws ≠ []) : ((List.range (nN ws)).filter (fun k => !clo ws k)).length = nO ws := by
  unfold nO
  rw [if_neg hn]
  have hmem : (ws.getLastD ([], 0)) ∈ ws := by
    rw [List.getLastD_eq_getLast?]
    cases e : ws.getLast? with
    | none => rw [List.getLast?_eq_none_iff] at e; exact absurd e hn
    | some x => exact List.mem_of_getLast? e
  generalize hw : ws.getLastD ([], 0) = w at hmem
  have hb : ∀ d, bg ws (w.1.take d) := fun d => Or.inr ⟨w, hmem, List.take_prefix _ _⟩
  have e : (List.range (nN ws)).filter (fun k => !clo ws k) = (List.range (w.1.length + 1)).map (fun d => ix ws (w.1.take d)) := by
    refine pw_ext (r := (· < ·)) (fun x y g1 g2 => by omega) _ _ (List.Pairwise.filter _ List.pairwise_lt_range) ?_ (fun x => ?_)
    · rw [List.pairwise_map]
      refine List.Pairwise.imp_of_mem ?_ List.pairwise_lt_range
      intro i j hi hj hij
      rw [List.mem_range] at hi hj
      rw [← pn_lx hs (ix_lt hs (hb i)) (ix_lt hs (hb j)), pn_ix hs (hb i), pn_ix hs (hb j)]
      refine pf_lt _ _ (List.take_prefix_take_left (by omega)) (fun e => ?_)
      have := congrArg List.length e
      rw [List.length_take, List.length_take] at this
      omega
    · rw [List.mem_filter, List.mem_range, List.mem_map]
      constructor
      · rintro ⟨h1, h2⟩
        have h3 : clo ws x = false := by simpa using h2
        rw [clo_iff hs hn h1, hw] at h3
        refine ⟨(pn ws x).length, ?_, ?_⟩
        · rw [List.mem_range]; have := h3.length_le; omega
        · rw [← List.prefix_iff_eq_take.mp h3, ix_pn hs h1]
      · rintro ⟨d, h1, rfl⟩
        refine ⟨ix_lt hs (hb d), ?_⟩
        have : clo ws (ix ws (w.1.take d)) = false := by
          rw [clo_iff hs hn (ix_lt hs (hb d)), pn_ix hs (hb d), hw]
          exact List.take_prefix _ _
        rw [this]
        rfl
  rw [e, List.length_map, List.length_range]
