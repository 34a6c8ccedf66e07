/-! beginnings: words that begin with letters, what two words have in common -/
theorem pf_lx : ∀ (p w : List Int), p <+: w → lx w p = false
  | [], w, _ => by cases w <;> rfl
  | x :: p, [], h => by simp at h
  | x :: p, y :: w, h => by
    obtain ⟨h1, h2⟩ := List.cons_prefix_cons.mp h
    subst h1
    simp [lx, pf_lx p w h2]
theorem pf_cvx : ∀ (p w v : List Int), lx w p = false → lx w v = true → p <+: v → p <+: w
  | [], w, v, _, _, _ => List.nil_prefix
  | x :: p, w, [], _, _, h => by simp at h
  | x :: p, [], z :: v, h, _, _ => by simp [lx] at h
  | x :: p, y :: w, z :: v, h1, h2, h3 => by
    obtain ⟨h4, h5⟩ := List.cons_prefix_cons.mp h3
    subst h4
    simp only [lx, Bool.or_eq_false_iff, Bool.and_eq_false_iff, decide_eq_false_iff_not, Bool.or_eq_true, Bool.and_eq_true, decide_eq_true_eq] at h1 h2
    rcases h2 with h2 | ⟨h2, h6⟩
    · exact absurd h2 h1.1
    · subst h2
      have h7 : lx w p = false := by
        rcases h1.2 with g | g
        · exact absurd rfl g
        · exact g
      exact List.cons_prefix_cons.mpr ⟨rfl, pf_cvx p w v h7 h6 h5⟩
theorem pf_lt : ∀ (p w : List Int), p <+: w → p ≠ w → lx p w = true
  | [], [], _, h => absurd rfl h
  | [], y :: w, _, _ => rfl
  | x :: p, [], h, _ => by simp at h
  | x :: p, y :: w, h, hn => by
    obtain ⟨h1, h2⟩ := List.cons_prefix_cons.mp h
    subst h1
    simp [lx, pf_lt p w h2 (fun e => hn (by rw [e]))]
/-- how many letters two words have in common ahead -/
def cpl : List Int → List Int → Nat
  | x :: w, y :: v => if x = y then cpl w v + 1 else 0
  | _, _ => 0
theorem cpl_le : ∀ (w v : List Int), cpl w v ≤ w.length ∧ cpl w v ≤ v.length
  | [], v => by simp [cpl]
  | x :: w, [] => by simp [cpl]
  | x :: w, y :: v => by
    have := cpl_le w v
    simp only [cpl, List.length_cons]
    split <;> omega
theorem cpl_iff : ∀ (p a b : List Int), p <+: a → (p <+: b ↔ p.length ≤ cpl a b)
  | [], a, b, _ => by simp
  | x :: p, [], b, h => by simp at h
  | x :: p, y :: a, [], _ => by simp [cpl]
  | x :: p, y :: a, z :: b, h => by
    obtain ⟨h1, h2⟩ := List.cons_prefix_cons.mp h
    subst h1
    rw [List.cons_prefix_cons, cpl_iff p a b h2]
    simp only [cpl, List.length_cons]
    by_cases c : x = z
    · rw [if_pos c]
      constructor
      · intro g; omega
      · intro g; exact ⟨c, by omega⟩
    · rw [if_neg c]
      constructor
      · intro g; exact absurd g.1 c
      · intro g; omega
/-- what is longer than what they have in common stands behind the first -/
theorem cpl_lx : ∀ (a q : List Int) (k : Nat), lx a q = true → cpl a q < k → lx a (q.take k) = true
  | [], [], k, h, _ => by simp [lx] at h
  | [], y :: q, 0, _, h => by omega
  | [], y :: q, k + 1, _, _ => rfl
  | x :: a, [], k, h, _ => by simp [lx] at h
  | x :: a, y :: q, 0, _, h => by omega
  | x :: a, y :: q, k + 1, h, hc => by
    simp only [lx, cpl, List.take_succ_cons, Bool.or_eq_true, Bool.and_eq_true, decide_eq_true_eq] at h hc ⊢
    rcases h with h | ⟨h1, h2⟩
    · exact Or.inl h
    · rw [if_pos h1] at hc
      exact Or.inr ⟨h1, cpl_lx a q k h2 (by omega)⟩
theorem seg_tw {α : Type} (P : α → Bool) : ∀ (l : List α), l.Pairwise (fun a b => P b = true → P a = true) → l.filter P = l.takeWhile P
  | [], _ => rfl
  | a :: l, h => by
    obtain ⟨h1, h2⟩ := List.pairwise_cons.mp h
    rw [List.filter_cons, List.takeWhile_cons]
    by_cases c : P a = true
    · rw [if_pos c, if_pos c, seg_tw P l h2]
    · rw [if_neg c, if_neg c, List.filter_eq_nil_iff]
      intro b hb g
      exact c (h1 b hb g)
theorem tw_iff {α : Type} (P : α → Bool) : ∀ (l : List α), l.Pairwise (fun a b => P b = true → P a = true) → ∀ (i : Nat) (a : α), l[i]? = some a → (P a = true ↔ i < (l.takeWhile P).length)
  | [], _, i, a, h => by simp at h
  | b :: l, hp, i, a, h => by
    obtain ⟨h1, h2⟩ := List.pairwise_cons.mp hp
    rw [List.takeWhile_cons]
    cases i with
    | zero =>
      simp only [List.getElem?_cons_zero, Option.some.injEq] at h
      subst h
      by_cases c : P b = true
      · simp [c]
      · simp [c]
    | succ i =>
      rw [List.getElem?_cons_succ] at h
      have ih := tw_iff P l h2 i a h
      by_cases c : P b = true
      · rw [if_pos c, List.length_cons, ih]; omega
      · rw [if_neg c]
        constructor
        · intro g; exact absurd (h1 a (List.mem_of_getElem? h) g) c
        · intro g; simp at g
/-- the words that begin with p -/
def sb (ws : List wd) (p : List Int) : List wd := ws.filter (fun q => p.isPrefixOf q.1)
theorem sb_mem {ws : List wd} {p : List Int} {q : wd} : q ∈ sb ws p ↔ q ∈ ws ∧ p <+: q.1 := by
  unfold sb
  rw [List.mem_filter, List.isPrefixOf_iff_prefix]
theorem sb_pw {ws : List wd} (hs : so ws) (p : List Int) : (ws.drop (ah ws p)).Pairwise (fun a b => p.isPrefixOf b.1 = true → p.isPrefixOf a.1 = true) := by
  rw [List.pairwise_iff_getElem]
  intro i j hi hj hij
  rw [List.length_drop] at hi hj
  rw [List.getElem_drop, List.getElem_drop, List.isPrefixOf_iff_prefix, List.isPrefixOf_iff_prefix]
  intro h
  refine pf_cvx _ _ _ (ah_ge hs (i := ah ws p + i) (by omega) (List.getElem?_eq_getElem (by omega))) (so_get hs (i := ah ws p + i) (j := ah ws p + j) (by omega) (List.getElem?_eq_getElem (by omega)) (List.getElem?_eq_getElem (by omega))) h
theorem sb_eq {ws : List wd} (hs : so ws) (p : List Int) : sb ws p = (ws.drop (ah ws p)).takeWhile (fun q => p.isPrefixOf q.1) := by
  rw [← seg_tw _ _ (sb_pw hs p)]
  unfold sb
  have e : ws = ws.take (ah ws p) ++ ws.drop (ah ws p) := (List.take_append_drop _ _).symm
  have h0 : (ws.take (ah ws p)).filter (fun q => p.isPrefixOf q.1) = [] := by
    rw [List.filter_eq_nil_iff]
    intro a ha g
    obtain ⟨i, hi⟩ := List.getElem?_of_mem ha
    have hlt := (List.getElem?_eq_some_iff.mp hi).1
    rw [List.length_take] at hlt
    rw [List.getElem?_take_of_lt (by omega)] at hi
    have := ah_lt ws p i a (by omega) hi
    rw [pf_lx _ _ (List.isPrefixOf_iff_prefix.mp g)] at this
    exact Bool.noConfusion this
  have h1 := List.filter_append (p := fun q => p.isPrefixOf q.1) (ws.take (ah ws p)) (ws.drop (ah ws p))
  rw [← e, h0, List.nil_append] at h1
  exact h1
theorem sb_iff {ws : List wd} (hs : so ws) (p : List Int) {i : Nat} {q : wd} (hq : ws[i]? = some q) : p <+: q.1 ↔ ah ws p ≤ i ∧ i < ah ws p + (sb ws p).length := by
  rw [sb_eq hs]
  by_cases c : i < ah ws p
  · constructor
    · intro h
      have := ah_lt ws p i q c hq
      rw [pf_lx _ _ h] at this
      exact Bool.noConfusion this
    · intro h; omega
  · have h1 := tw_iff _ _ (sb_pw hs p) (i - ah ws p) q (by rw [List.getElem?_drop, show ah ws p + (i - ah ws p) = i by omega]; exact hq)
    rw [List.isPrefixOf_iff_prefix] at h1
    rw [h1]
    omega
theorem sb_get {ws : List wd} (hs : so ws) (p : List Int) {i : Nat} (hi : i < (sb ws p).length) : (sb ws p)[i]? = ws[ah ws p + i]? := by
  rw [sb_eq hs] at hi ⊢
  obtain ⟨t, ht⟩ := List.takeWhile_prefix (l := ws.drop (ah ws p)) (fun q => p.isPrefixOf q.1)
  rw [← List.getElem?_drop]
  rw [← List.getElem?_append_left (l₂ := t) hi, ht]
theorem sb_le {ws : List wd} (hs : so ws) (p : List Int) : ah ws p + (sb ws p).length ≤ ws.length := by
  have h := ah_le ws p
  rw [sb_eq hs]
  have := (List.takeWhile_sublist (l := ws.drop (ah ws p)) (fun q => p.isPrefixOf q.1)).length_le
  rw [List.length_drop] at this
  omega
theorem ah_lt_of {ws : List wd} (hs : so ws) {u v : List Int} {i j : Nat} {a b : Int} (hi : ws[i]? = some (u, a)) (hj : ws[j]? = some (v, b)) : lx u v = true ↔ i < j := by
  constructor
  · intro h
    rcases Nat.lt_trichotomy i j with c | c | c
    · exact c
    · subst c
      rw [hi] at hj
      injection hj with hj
      injection hj with hj _
      rw [hj, lx_irr] at h
      exact Bool.noConfusion h
    · have := so_get hs c hj hi
      rw [lx_asy this] at h
      exact Bool.noConfusion h
  · intro h
    exact so_get hs h hi hj
/-- the beginnings that come with each word, each with its NUMBER if it is the word, else -1 -/
def nds : List Int → List wd → List wd
  | _, [] => []
  | a, q :: ws => (List.range' (cpl a q.1 + 1) (q.1.length - cpl a q.1)).map (fun k => (q.1.take k, if k = q.1.length then q.2 else -1)) ++ nds q.1 ws
/-- all beginnings in their order; that of nothing first -/
def ND (ws : List wd) : List wd := ([], -1) :: nds [] ws
theorem nds_mem : ∀ (ws : List wd) (a : List Int) (r : wd), r ∈ nds a ws → ∃ q ∈ ws, r.1 <+: q.1 ∧ r.1 ≠ [] ∧ (r.1 = q.1 → r.2 = q.2) ∧ (r.1 ≠ q.1 → r.2 = -1)
  | [], a, r, h => by simp [nds] at h
  | q :: ws, a, r, h => by
    rcases List.mem_append.mp h with h | h
    · obtain ⟨k, hk, rfl⟩ := List.mem_map.mp h
      rw [List.mem_range'_1] at hk
      have hc := (cpl_le a q.1).2
      have hl : (q.1.take k).length = k := by rw [List.length_take]; omega
      refine ⟨q, List.mem_cons_self, List.take_prefix _ _, fun e => ?_, fun e => ?_, fun e => ?_⟩
      · dsimp only at e; rw [e] at hl; simp at hl; omega
      · dsimp only at e ⊢; rw [if_pos (by rw [← e, hl])]
      · dsimp only at e ⊢; rw [if_neg (fun g => e (by rw [g, List.take_length]))]
    · obtain ⟨q', h1, h2⟩ := nds_mem ws q.1 r h
      exact ⟨q', List.mem_cons_of_mem _ h1, h2⟩
theorem nds_gt : ∀ (ws : List wd) (a : List Int), so ws → (∀ q ∈ ws, lx a q.1 = true) → ∀ r ∈ nds a ws, lx a r.1 = true
  | [], a, _, _, r, h => by simp [nds] at h
  | q :: ws, a, hs, ha, r, h => by
    obtain ⟨h1, h2⟩ := List.pairwise_cons.mp hs
    rcases List.mem_append.mp h with h | h
    · obtain ⟨k, hk, rfl⟩ := List.mem_map.mp h
      rw [List.mem_range'_1] at hk
      exact cpl_lx a q.1 k (ha q List.mem_cons_self) (by omega)
    · exact lx_tr _ _ _ (ha q List.mem_cons_self) (nds_gt ws q.1 h2 h1 r h)
theorem nds_so : ∀ (ws : List wd) (a : List Int), so ws → so (nds a ws)
  | [], a, _ => List.Pairwise.nil
  | q :: ws, a, hs => by
    obtain ⟨h1, h2⟩ := List.pairwise_cons.mp hs
    unfold so
    unfold nds
    rw [List.pairwise_append]
    have hc := (cpl_le a q.1).2
    refine ⟨?_, nds_so ws q.1 h2, fun x hx y hy => ?_⟩
    · rw [List.pairwise_map]
      refine List.Pairwise.imp_of_mem ?_ List.pairwise_lt_range'
      intro i j hi hj hij
      rw [List.mem_range'_1] at hi hj
      refine pf_lt _ _ (List.take_prefix_take_left (by omega)) (fun e => ?_)
      have := congrArg List.length e
      dsimp only at this
      rw [List.length_take, List.length_take] at this
      omega
    · obtain ⟨k, hk, rfl⟩ := List.mem_map.mp hx
      have hy2 := nds_gt ws q.1 h2 h1 y hy
      dsimp only
      by_cases e : q.1.take k = q.1
      · rw [e]; exact hy2
      · exact lx_tr _ _ _ (pf_lt _ _ (List.take_prefix _ _) e) hy2
theorem ND_so {ws : List wd} (hs : so ws) : so (ND ws) := by
  refine List.pairwise_cons.mpr ⟨fun r hr => ?_, nds_so ws [] hs⟩
  obtain ⟨q, _, _, h3, _⟩ := nds_mem ws [] r hr
  dsimp only
  cases e : r.1 with
  | nil => exact absurd e h3
  | cons x w => rfl
theorem nds_all : ∀ (ws : List wd) (a : List Int) (q : wd), q ∈ ws → ∀ p, p <+: q.1 → p <+: a ∨ ∃ v, (p, v) ∈ nds a ws
  | [], a, q, h, _, _ => by simp at h
  | q0 :: ws, a, q, h, p, hp => by
    have first : ∀ p, p <+: q0.1 → p <+: a ∨ ∃ v, (p, v) ∈ nds a (q0 :: ws) := by
      intro p hp
      by_cases c : p.length ≤ cpl a q0.1
      · refine Or.inl ?_
        have hh : q0.1.take (cpl a q0.1) <+: q0.1 := List.take_prefix _ _
        have hsw : cpl a q0.1 = cpl q0.1 a := by
          have key : ∀ (u v : List Int), cpl u v = cpl v u := by
            intro u
            induction u with
            | nil => intro v; cases v <;> rfl
            | cons x u ih =>
              intro v
              cases v with
              | nil => rfl
              | cons y v =>
                simp only [cpl]
                by_cases e : x = y
                · rw [if_pos e, if_pos e.symm, ih]
                · rw [if_neg e, if_neg (fun g => e g.symm)]
          exact key _ _
        exact (cpl_iff p q0.1 a hp).mpr (by omega)
      · refine Or.inr ⟨if p.length = q0.1.length then q0.2 else -1, List.mem_append_left _ (List.mem_map.mpr ⟨p.length, ?_, ?_⟩)⟩
        · rw [List.mem_range'_1]
          have := hp.length_le
          omega
        · rw [← List.prefix_iff_eq_take.mp hp]
    rcases List.mem_cons.mp h with h | h
    · subst h; exact first p hp
    · rcases nds_all ws q0.1 q h p hp with g | ⟨v, g⟩
      · exact first p g
      · exact Or.inr ⟨v, List.mem_append_right _ g⟩
/-- a beginning: of nothing, or of a word -/
def bg (ws : List wd) (p : List Int) : Prop := p = [] ∨ ∃ q ∈ ws, p <+: q.1
theorem ND_bg {ws : List wd} {r : wd} (h : r ∈ ND ws) : bg ws r.1 := by
  rcases List.mem_cons.mp h with h | h
  · exact Or.inl (by rw [h])
  · obtain ⟨q, h1, h2, _⟩ := nds_mem ws [] r h
    exact Or.inr ⟨q, h1, h2⟩
theorem bg_ND {ws : List wd} {p : List Int} (h : bg ws p) : ∃ v, (p, v) ∈ ND ws := by
  rcases h with h | ⟨q, h1, h2⟩
  · exact ⟨-1, by rw [h]; exact List.mem_cons_self⟩
  · rcases nds_all ws [] q h1 p h2 with g | ⟨v, g⟩
    · exact ⟨-1, by rw [List.prefix_nil.mp g]; exact List.mem_cons_self⟩
    · exact ⟨v, List.mem_cons_of_mem _ g⟩
theorem bg_pf {ws : List wd} {p q : List Int} (h : bg ws q) (hp : p <+: q) : bg ws p := by
  rcases h with h | ⟨r, h1, h2⟩
  · rw [h] at hp; exact Or.inl (List.prefix_nil.mp hp)
  · exact Or.inr ⟨r, h1, hp.trans h2⟩
theorem nds_len : ∀ (ws : List wd) (a : List Int), (∀ q ∈ ws, q.1.length ≤ 10) → (nds a ws).length ≤ 10 * ws.length
  | [], a, _ => by simp [nds]
  | q :: ws, a, h => by
    have ih := nds_len ws q.1 (fun r hr => h r (List.mem_cons_of_mem _ hr))
    have := h q List.mem_cons_self
    unfold nds
    rw [List.length_append, List.length_map, List.length_range', List.length_cons]
    omega
theorem ND_len {ws : List wd} (h : ok ws) : (ND ws).length ≤ 1001 := by
  have := nds_len ws [] (fun q hq => (h.1 q hq).2.2.1)
  have := h.2.2
  unfold ND
  rw [List.length_cons]
  omega
/-- where a beginning lies -/
theorem bg_get {ws : List wd} (hs : so ws) {p : List Int} (h : bg ws p) : ∃ v, (ND ws)[ah (ND ws) p]? = some (p, v) := by
  obtain ⟨v, hv⟩ := bg_ND h
  obtain ⟨i, hi⟩ := List.getElem?_of_mem hv
  refine ⟨v, ?_⟩
  rw [ah_get (ND_so hs) hi, hi]
theorem nd_num {ws : List wd} (hk : ∀ p ∈ ws, wk p) (hs : so ws) {k : Nat} {p : List Int} {v : Int} (h : (ND ws)[k]? = some (p, v)) : v = (nu ws p).getD (-1) := by
  have hm := List.mem_of_getElem? h
  rcases List.mem_cons.mp hm with g | g
  · injection g with g1 g2
    subst g1 g2
    cases e : nu ws [] with
    | none => rfl
    | some n =>
      have := hk _ (List.mem_of_getElem? (nu_some e))
      exact absurd rfl this.2.1
  · obtain ⟨q, h1, h2, h3, h4, h5⟩ := nds_mem ws [] _ g
    dsimp only at h2 h3 h4 h5
    by_cases c : p = q.1
    · obtain ⟨i, hi⟩ := List.getElem?_of_mem h1
      rw [h4 c, c, nu_get hs hi]
      rfl
    · rw [h5 c]
      cases e : nu ws p with
      | none => rfl
      | some n =>
        exfalso
        -- p is a word itself: then its node comes with itself, and the two nodes are one
        obtain ⟨i, hi⟩ := List.getElem?_of_mem (List.mem_of_getElem? (nu_some e))
        have key : ∀ (ws : List wd) (a : List Int), so ws → (∀ q ∈ ws, lx a q.1 = true) → ∀ n, (p, n) ∈ ws → (p, n) ∈ nds a ws := by
          intro ws
          induction ws with
          | nil => intro a _ _ n h; simp at h
          | cons r ws ih =>
            intro a hs ha n hn
            obtain ⟨s1, s2⟩ := List.pairwise_cons.mp hs
            rcases List.mem_cons.mp hn with hn | hn
            · refine List.mem_append_left _ (List.mem_map.mpr ⟨r.1.length, ?_, ?_⟩)
              · rw [List.mem_range'_1]
                have hc := (cpl_le a r.1).2
                have hne : cpl a r.1 ≠ r.1.length := by
                  intro hc2
                  have hb : r.1 <+: a := by
                    have hsw := (cpl_iff r.1 r.1 a (List.prefix_refl _)).mpr
                    have key2 : ∀ (u v : List Int), cpl u v = cpl v u := by
                      intro u
                      induction u with
                      | nil => intro v; cases v <;> rfl
                      | cons x u ih =>
                        intro v
                        cases v with
                        | nil => rfl
                        | cons y v =>
                          simp only [cpl]
                          by_cases e : x = y
                          · rw [if_pos e, if_pos e.symm, ih]
                          · rw [if_neg e, if_neg (fun g => e g.symm)]
                    rw [key2] at hc2
                    exact hsw (by omega)
                  have := pf_lx _ _ hb
                  rw [ha r List.mem_cons_self] at this
                  exact Bool.noConfusion this
                omega
              · rw [List.take_length, if_pos rfl, hn]
            · exact List.mem_append_right _ (ih r.1 s2 s1 n hn)
        have hne : ∀ q ∈ ws, lx [] q.1 = true := by
          intro q hq
          have := (hk q hq).2.1
          cases e : q.1 with
          | nil => exact absurd e this
          | cons x w => rfl
        have hin := key ws [] hs hne n (List.mem_of_getElem? (nu_some e))
        obtain ⟨j, hj⟩ := List.getElem?_of_mem (show (p, n) ∈ ND ws from List.mem_cons_of_mem _ hin)
        have e1 := ah_get (ND_so hs) hj
        have e2 := ah_get (ND_so hs) h
        dsimp only at e1 e2
        rw [e1] at e2
        subst e2
        rw [hj] at h
        injection h with h
        injection h with _ h
        have := hk _ (List.mem_of_getElem? (nu_some e))
        have h6 := this.2.2.2.1
        dsimp only at h6
        have h7 := h5 c
        omega
