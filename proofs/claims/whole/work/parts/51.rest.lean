/-! what is left behind a beginning; nodes, what goes on from them -/
theorem pw_ext {α : Type} {r : α → α → Prop} (ha : ∀ a b, r a b → r b a → False) : ∀ (l l' : List α), l.Pairwise r → l'.Pairwise r → (∀ x, x ∈ l ↔ x ∈ l') → l = l'
  | [], [], _, _, _ => rfl
  | [], b :: l', _, _, h => absurd ((h b).mpr List.mem_cons_self) (by simp)
  | a :: l, [], _, _, h => absurd ((h a).mp List.mem_cons_self) (by simp)
  | a :: l, b :: l', h1, h2, h => by
    obtain ⟨p1, p2⟩ := List.pairwise_cons.mp h1
    obtain ⟨q1, q2⟩ := List.pairwise_cons.mp h2
    have e : a = b := by
      rcases List.mem_cons.mp ((h a).mp List.mem_cons_self) with g | g
      · exact g
      · rcases List.mem_cons.mp ((h b).mpr List.mem_cons_self) with g2 | g2
        · exact g2.symm
        · exact (ha _ _ (p1 b g2) (q1 a g)).elim
    subst e
    congr 1
    refine pw_ext ha l l' p2 q2 (fun x => ⟨fun hx => ?_, fun hx => ?_⟩)
    · rcases List.mem_cons.mp ((h x).mp (List.mem_cons_of_mem _ hx)) with g | g
      · subst g; exact (ha _ _ (p1 x hx) (p1 x hx)).elim
      · exact g
    · rcases List.mem_cons.mp ((h x).mpr (List.mem_cons_of_mem _ hx)) with g | g
      · subst g; exact (ha _ _ (q1 x hx) (q1 x hx)).elim
      · exact g
theorem so_ext {l l' : List wd} (h1 : so l) (h2 : so l') (h : ∀ x, x ∈ l ↔ x ∈ l') : l = l' :=
  pw_ext (fun a b g1 g2 => by rw [lx_asy g1] at g2; exact Bool.noConfusion g2) l l' h1 h2 h
theorem mf_spec : ∀ (l : List wd) (s : Int), l.foldl (fun s q => am_min s q.2) s ≤ s ∧ (∀ q ∈ l, l.foldl (fun s q => am_min s q.2) s ≤ q.2) ∧ (l.foldl (fun s q => am_min s q.2) s = s ∨ ∃ q ∈ l, q.2 = l.foldl (fun s q => am_min s q.2) s)
  | [], s => ⟨Int.le_refl _, fun q hq => by simp at hq, Or.inl rfl⟩
  | a :: l, s => by
    obtain ⟨h1, h2, h3⟩ := mf_spec l (am_min s a.2)
    have hm : am_min s a.2 ≤ s ∧ am_min s a.2 ≤ a.2 ∧ (am_min s a.2 = s ∨ am_min s a.2 = a.2) := by unfold am_min; split <;> omega
    rw [List.foldl_cons]
    refine ⟨by omega, fun q hq => ?_, ?_⟩
    · rcases List.mem_cons.mp hq with g | g
      · rw [g]; omega
      · exact h2 q g
    · rcases h3 with g | ⟨q, g1, g2⟩
      · rcases hm.2.2 with g2 | g2
        · exact Or.inl (by omega)
        · exact Or.inr ⟨a, List.mem_cons_self, by omega⟩
      · exact Or.inr ⟨q, List.mem_cons_of_mem _ g1, g2⟩
/-- the least NUMBER of words that begin so; 0 without words -/
def lst (ws : List wd) (p : List Int) : Int := if sb ws p = [] then 0 else (sb ws p).foldl (fun s q => am_min s q.2) 999999
def isMin (ws : List wd) (p : List Int) (m : Int) : Prop := (∀ q ∈ sb ws p, m ≤ q.2) ∧ ∃ q ∈ sb ws p, q.2 = m
theorem isMin.uniq {ws : List wd} {p : List Int} {m n : Int} (h1 : isMin ws p m) (h2 : isMin ws p n) : m = n := by
  obtain ⟨a, q, hq, e1⟩ := h1
  obtain ⟨b, r, hr, e2⟩ := h2
  have := a r hr
  have := b q hq
  omega
theorem lst_min {ws : List wd} (hk : ∀ p ∈ ws, wk p) {p : List Int} (hn : sb ws p ≠ []) : isMin ws p (lst ws p) := by
  unfold lst
  rw [if_neg hn]
  obtain ⟨h1, h2, h3⟩ := mf_spec (sb ws p) 999999
  refine ⟨h2, ?_⟩
  rcases h3 with g | g
  · obtain ⟨q, hq⟩ := List.exists_mem_of_ne_nil _ hn
    have h4 := (hk q (sb_mem.mp hq).1).2.2.2.2
    have h5 := h2 q hq
    exact ⟨q, hq, by omega⟩
  · exact g
theorem lst_eq {ws : List wd} (hk : ∀ p ∈ ws, wk p) {p : List Int} {m : Int} (h : isMin ws p m) : lst ws p = m := by
  refine (lst_min hk (fun e => ?_)).uniq h
  obtain ⟨q, hq, _⟩ := h.2
  rw [e] at hq
  simp at hq
theorem lx_app : ∀ (p s u : List Int), lx (p ++ s) (p ++ u) = lx s u
  | [], s, u => rfl
  | x :: p, s, u => by simp [lx, lx_app p s u]
/-- what is left of the words that begin with p, with their NUMBERS less the least -/
def R (ws : List wd) (p : List Int) : List wd := (sb ws p).map (fun q => (q.1.drop p.length, q.2 - lst ws p))
theorem R_mem {ws : List wd} {p s : List Int} {v : Int} : (s, v) ∈ R ws p ↔ (p ++ s, v + lst ws p) ∈ ws := by
  unfold R
  rw [List.mem_map]
  constructor
  · rintro ⟨q, hq, e⟩
    obtain ⟨h1, t, h2⟩ := sb_mem.mp hq
    injection e with e1 e2
    rw [← h2, List.drop_left] at e1
    have : q = (p ++ s, v + lst ws p) := Prod.ext (by rw [← h2, e1]) (by dsimp only; omega)
    rw [← this]
    exact h1
  · intro h
    refine ⟨_, sb_mem.mpr ⟨h, List.prefix_append _ _⟩, ?_⟩
    dsimp only
    rw [List.drop_left]
    congr 1
    omega
theorem R_so {ws : List wd} (hs : so ws) (p : List Int) : so (R ws p) := by
  unfold so R
  rw [List.pairwise_map]
  refine List.Pairwise.imp_of_mem ?_ (List.Pairwise.filter _ hs)
  intro a b ha hb h
  obtain ⟨_, s, h2⟩ := sb_mem.mp ha
  obtain ⟨_, u, h4⟩ := sb_mem.mp hb
  dsimp only
  rw [← h2, ← h4, lx_app] at h
  rw [← h2, ← h4, List.drop_left, List.drop_left]
  exact h
theorem R_nn {ws : List wd} (hk : ∀ p ∈ ws, wk p) {p : List Int} {r : wd} (h : r ∈ R ws p) : 0 ≤ r.2 := by
  unfold R at h
  obtain ⟨q, hq, e⟩ := List.mem_map.mp h
  have := (lst_min hk (fun g => by rw [g] at hq; simp at hq)).1 q hq
  rw [← e]
  dsimp only
  omega
theorem nu_mem {ws : List wd} (hs : so ws) {t : List Int} {n : Int} : nu ws t = some n ↔ (t, n) ∈ ws := by
  constructor
  · intro h; exact List.mem_of_getElem? (nu_some h)
  · intro h
    obtain ⟨i, hi⟩ := List.getElem?_of_mem h
    exact nu_get hs hi
/-- what a beginning ends with, less the least; -2 if it is no word -/
def en (ws : List wd) (p : List Int) : Int := match nu ws p with
  | some n => n - lst ws p
  | none => -2
theorem en_iff {ws : List wd} (hk : ∀ p ∈ ws, wk p) (hs : so ws) {p : List Int} {v : Int} (hv : 0 ≤ v) : en ws p = v ↔ ([], v) ∈ R ws p := by
  rw [R_mem, List.append_nil, ← nu_mem hs]
  unfold en
  cases e : nu ws p with
  | none => simp; omega
  | some n => simp; omega
theorem en_nn {ws : List wd} (hk : ∀ p ∈ ws, wk p) (hs : so ws) (p : List Int) : en ws p = -2 ∨ 0 ≤ en ws p := by
  unfold en
  cases e : nu ws p with
  | none => exact Or.inl rfl
  | some n =>
    refine Or.inr ?_
    have hm : (p, n) ∈ sb ws p := sb_mem.mpr ⟨(nu_mem hs).mp e, List.prefix_refl _⟩
    have := (lst_min hk (fun g => by rw [g] at hm; simp at hm)).1 _ hm
    dsimp only at this ⊢
    omega
section RR
variable {ws : List wd} {p q : List Int}
theorem R_pf {s : List Int} (hn : s ≠ []) : bg ws (p ++ s) ↔ ∃ r ∈ R ws p, s <+: r.1 := by
  constructor
  · intro h
    rcases h with h | ⟨q, h1, h2⟩
    · simp at h; exact absurd h.2 hn
    · obtain ⟨t, ht⟩ := h2
      refine ⟨(s ++ t, q.2 - lst ws p), R_mem.mpr ?_, List.prefix_append _ _⟩
      have : q = (p ++ (s ++ t), q.2 - lst ws p + lst ws p) := Prod.ext (by rw [← ht, List.append_assoc]) (by dsimp only; omega)
      rw [← this]
      exact h1
  · rintro ⟨r, h1, t, h2⟩
    refine Or.inr ⟨_, R_mem.mp (show (r.1, r.2) ∈ R ws p from h1), ?_⟩
    dsimp only
    rw [← h2, ← List.append_assoc]
    exact List.prefix_append _ _
theorem R_bg (h : R ws p = R ws q) {s : List Int} (hn : s ≠ []) : bg ws (p ++ s) ↔ bg ws (q ++ s) := by
  rw [R_pf hn, R_pf hn, h]
theorem bg_ne {s : List Int} (h : bg ws s) (hn : s ≠ []) : sb ws s ≠ [] := by
  rcases h with h | ⟨q, h1, h2⟩
  · exact absurd h hn
  · intro e
    have : q ∈ sb ws s := sb_mem.mpr ⟨h1, h2⟩
    rw [e] at this
    simp at this
theorem ap_ne {x : Int} : p ++ [x] ≠ [] := by simp
theorem R_out (hk : ∀ p ∈ ws, wk p) {s : List Int} (hb : bg ws (p ++ s)) (hn : s ≠ []) (m : Int) : lst ws (p ++ s) - lst ws p = m ↔ (∀ r ∈ R ws p, s <+: r.1 → m ≤ r.2) ∧ ∃ r ∈ R ws p, s <+: r.1 ∧ r.2 = m := by
  have hne : p ++ s ≠ [] := by simp [hn]
  have hm := lst_min hk (bg_ne hb hne)
  have key : ∀ m, isMin ws (p ++ s) (m + lst ws p) ↔ (∀ r ∈ R ws p, s <+: r.1 → m ≤ r.2) ∧ ∃ r ∈ R ws p, s <+: r.1 ∧ r.2 = m := by
    intro m
    constructor
    · rintro ⟨h1, q, hq, h2⟩
      refine ⟨fun r hr hsr => ?_, ?_⟩
      · obtain ⟨t, ht⟩ := hsr
        have h3 := R_mem.mp (show (r.1, r.2) ∈ R ws p from hr)
        have h4 := h1 _ (sb_mem.mpr ⟨h3, by dsimp only; rw [← ht, ← List.append_assoc]; exact List.prefix_append _ _⟩)
        dsimp only at h4
        omega
      · obtain ⟨h3, t, ht⟩ := sb_mem.mp hq
        refine ⟨(s ++ t, m), R_mem.mpr ?_, List.prefix_append _ _, rfl⟩
        have : q = (p ++ (s ++ t), m + lst ws p) := Prod.ext (by rw [← ht, List.append_assoc]) (by dsimp only; omega)
        rw [← this]
        exact h3
    · rintro ⟨h1, r, hr, ⟨t, ht⟩, h2⟩
      refine ⟨fun q hq => ?_, ?_⟩
      · obtain ⟨h3, u, hu⟩ := sb_mem.mp hq
        have := h1 (s ++ u, q.2 - lst ws p) (R_mem.mpr (by
          have : q = (p ++ (s ++ u), q.2 - lst ws p + lst ws p) := Prod.ext (by rw [← hu, List.append_assoc]) (by dsimp only; omega)
          rw [← this]
          exact h3)) (List.prefix_append _ _)
        dsimp only at this
        omega
      · refine ⟨(p ++ r.1, r.2 + lst ws p), sb_mem.mpr ⟨R_mem.mp (show (r.1, r.2) ∈ R ws p from hr), ?_⟩, ?_⟩
        · dsimp only; rw [← ht, ← List.append_assoc]; exact List.prefix_append _ _
        · dsimp only; omega
  rw [← key m]
  constructor
  · intro h; rw [show m + lst ws p = lst ws (p ++ s) by omega]; exact hm
  · intro h; have := hm.uniq h; omega
theorem R_outE (hk : ∀ p ∈ ws, wk p) (h : R ws p = R ws q) {s : List Int} (hn : s ≠ []) (hb : bg ws (p ++ s)) : lst ws (p ++ s) - lst ws p = lst ws (q ++ s) - lst ws q := by
  have h1 := (R_out hk hb hn _).mp rfl
  rw [h] at h1
  exact ((R_out hk ((R_bg h hn).mp hb) hn _).mpr h1).symm
theorem R_sub (hk : ∀ p ∈ ws, wk p) (hs : so ws) (h : R ws p = R ws q) {s : List Int} (hn : s ≠ []) (hb : bg ws (p ++ s)) : R ws (p ++ s) = R ws (q ++ s) := by
  have e := R_outE hk h hn hb
  refine so_ext (R_so hs _) (R_so hs _) (fun x => ?_)
  obtain ⟨u, v⟩ := x
  rw [R_mem, R_mem, List.append_assoc, List.append_assoc]
  have e1 : v + lst ws (p ++ s) = (v + (lst ws (p ++ s) - lst ws p)) + lst ws p := by omega
  have e2 : v + lst ws (q ++ s) = (v + (lst ws (p ++ s) - lst ws p)) + lst ws q := by omega
  rw [e1, e2, ← R_mem, ← R_mem, h]
theorem R_en (hk : ∀ p ∈ ws, wk p) (hs : so ws) (h : R ws p = R ws q) : en ws p = en ws q := by
  rcases en_nn hk hs p with g | g
  · rcases en_nn hk hs q with g2 | g2
    · omega
    · have := (en_iff hk hs g2).mp rfl
      rw [← h] at this
      have := (en_iff hk hs g2).mpr this
      omega
  · have := (en_iff hk hs g).mp rfl
    rw [h] at this
    exact ((en_iff hk hs g).mpr this).symm
theorem R_of (hk : ∀ p ∈ ws, wk p) (hs : so ws) (he : en ws p = en ws q) (hb : ∀ x, bg ws (p ++ [x]) ↔ bg ws (q ++ [x])) (hr : ∀ x, bg ws (p ++ [x]) → lst ws (p ++ [x]) - lst ws p = lst ws (q ++ [x]) - lst ws q ∧ R ws (p ++ [x]) = R ws (q ++ [x])) : R ws p = R ws q := by
  have key : ∀ (p q : List Int), en ws p = en ws q → (∀ x, bg ws (p ++ [x]) → lst ws (p ++ [x]) - lst ws p = lst ws (q ++ [x]) - lst ws q ∧ R ws (p ++ [x]) = R ws (q ++ [x])) → ∀ x, x ∈ R ws p → x ∈ R ws q := by
    intro p q he hr r hrp
    obtain ⟨s, v⟩ := r
    have hv := R_nn hk hrp
    dsimp only at hv
    cases s with
    | nil =>
      rw [← en_iff hk hs hv] at hrp ⊢
      omega
    | cons x s =>
      have h1 : bg ws (p ++ [x]) := (R_pf (by simp)).mpr ⟨_, hrp, by simp⟩
      obtain ⟨h2, h3⟩ := hr x h1
      have h4 : (s, v - (lst ws (p ++ [x]) - lst ws p)) ∈ R ws (p ++ [x]) := by
        rw [R_mem] at hrp ⊢
        rw [List.append_assoc, List.singleton_append, show v - (lst ws (p ++ [x]) - lst ws p) + lst ws (p ++ [x]) = v + lst ws p by omega]
        exact hrp
      rw [h3, R_mem, List.append_assoc, List.singleton_append] at h4
      rw [R_mem, show v + lst ws q = v - (lst ws (p ++ [x]) - lst ws p) + lst ws (q ++ [x]) by omega]
      exact h4
  refine so_ext (R_so hs _) (R_so hs _) (fun x => ⟨key p q he hr x, key q p he.symm (fun x hx => ?_) x⟩)
  obtain ⟨h1, h2⟩ := hr x ((hb x).mpr hx)
  exact ⟨h1.symm, h2.symm⟩
/-- how many beginnings begin with p -/
def sz (ws : List wd) (p : List Int) : Nat := (sb (ND ws) p).length
theorem R_sz (hs : so ws) (hp : bg ws p) (hq : bg ws q) (h : R ws p = R ws q) : sz ws p = sz ws q := by
  have key : ∀ p, bg ws p → so ((sb (ND ws) p).map (fun r => (r.1.drop p.length, (0 : Int)))) ∧ ∀ r, r ∈ (sb (ND ws) p).map (fun r => (r.1.drop p.length, (0 : Int))) ↔ bg ws (p ++ r.1) ∧ r.2 = 0 := by
    intro p hp
    constructor
    · unfold so
      rw [List.pairwise_map]
      refine List.Pairwise.imp_of_mem ?_ (List.Pairwise.filter _ (ND_so hs))
      intro a b ha hb h
      obtain ⟨_, s, h2⟩ := sb_mem.mp ha
      obtain ⟨_, u, h4⟩ := sb_mem.mp hb
      dsimp only
      rw [← h2, ← h4, lx_app] at h
      rw [← h2, ← h4, List.drop_left, List.drop_left]
      exact h
    · intro r
      rw [List.mem_map]
      constructor
      · rintro ⟨a, ha, rfl⟩
        obtain ⟨h1, s, h2⟩ := sb_mem.mp ha
        refine ⟨?_, rfl⟩
        dsimp only
        have := ND_bg h1
        rw [← h2] at this ⊢
        rw [List.drop_left]
        exact this
      · rintro ⟨h1, h2⟩
        obtain ⟨v, hv⟩ := bg_ND h1
        refine ⟨_, sb_mem.mpr ⟨hv, List.prefix_append _ _⟩, ?_⟩
        dsimp only
        rw [List.drop_left]
        exact Prod.ext rfl h2.symm
  obtain ⟨a1, a2⟩ := key p hp
  obtain ⟨b1, b2⟩ := key q hq
  have e := so_ext a1 b1 (fun r => by
    rw [a2, b2]
    by_cases c : r.1 = []
    · rw [c, List.append_nil, List.append_nil]
      simp [hp, hq]
    · rw [R_bg h c])
  have := congrArg List.length e
  rw [List.length_map, List.length_map] at this
  exact this
end RR
