/-! words with numbers in their order: what both sides are held against -/
theorem lx_irr : ∀ (w : List Int), lx w w = false
  | [] => rfl
  | x :: w => by simp [lx, lx_irr w]
theorem lx_tr : ∀ (w v u : List Int), lx w v = true → lx v u = true → lx w u = true
  | [], v, [], h1, h2 => by cases v <;> simp [lx] at h1 h2
  | [], v, z :: u, _, _ => rfl
  | x :: w, [], u, h1, _ => by simp [lx] at h1
  | x :: w, y :: v, [], _, h2 => by simp [lx] at h2
  | x :: w, y :: v, z :: u, h1, h2 => by
    simp only [lx, Bool.or_eq_true, Bool.and_eq_true, decide_eq_true_eq] at h1 h2 ⊢
    rcases h1 with h1 | ⟨h1, h3⟩
    · rcases h2 with h2 | ⟨h2, -⟩ <;> exact Or.inl (by omega)
    · rcases h2 with h2 | ⟨h2, h4⟩
      · exact Or.inl (by omega)
      · exact Or.inr ⟨by omega, lx_tr w v u h3 h4⟩
theorem lx_asy {w v : List Int} (h : lx w v = true) : lx v w = false := by
  cases h2 : lx v w with
  | false => rfl
  | true =>
    have := lx_tr w v w h h2
    rw [lx_irr] at this
    exact Bool.noConfusion this
abbrev wd : Type := List Int × Int
def wk (p : wd) : Prop := wl p.1 ∧ p.1 ≠ [] ∧ p.1.length ≤ 10 ∧ 0 ≤ p.2 ∧ p.2 ≤ 999999
def so (ws : List wd) : Prop := ws.Pairwise (fun p q => lx p.1 q.1 = true)
def ok (ws : List wd) : Prop := (∀ p ∈ ws, wk p) ∧ so ws ∧ ws.length ≤ 100
/-- how many words stand ahead -/
def ah (ws : List wd) (t : List Int) : Nat := (ws.takeWhile (fun p => lx p.1 t)).length
theorem ah_le (ws : List wd) (t : List Int) : ah ws t ≤ ws.length := by
  unfold ah
  exact (List.takeWhile_sublist _).length_le
theorem ah_lt : ∀ (ws : List wd) (t : List Int) (i : Nat) (p : wd), i < ah ws t → ws[i]? = some p → lx p.1 t = true
  | [], t, i, p, h, _ => by simp [ah] at h
  | q :: ws, t, i, p, h, hp => by
    unfold ah at h
    rw [List.takeWhile_cons] at h
    by_cases c : lx q.1 t = true
    · rw [if_pos c] at h
      cases i with
      | zero =>
        simp at hp
        rw [← hp]
        exact c
      | succ i => exact ah_lt ws t i p (by simpa [ah] using h) (by simpa using hp)
    · rw [if_neg c] at h
      simp at h
theorem ah_at : ∀ (ws : List wd) (t : List Int) (p : wd), ws[ah ws t]? = some p → lx p.1 t = false
  | [], t, p, h => by simp at h
  | q :: ws, t, p, h => by
    unfold ah at h
    rw [List.takeWhile_cons] at h
    by_cases c : lx q.1 t = true
    · rw [if_pos c, List.length_cons, List.getElem?_cons_succ] at h
      exact ah_at ws t p h
    · rw [if_neg c] at h
      simp at h
      rw [← h]
      exact Bool.eq_false_iff.mpr c
theorem so_get {ws : List wd} (h : so ws) {i j : Nat} {p q : wd} (hij : i < j) (hi : ws[i]? = some p) (hj : ws[j]? = some q) : lx p.1 q.1 = true := by
  obtain ⟨h1, h2⟩ := List.getElem?_eq_some_iff.mp hi
  obtain ⟨h3, h4⟩ := List.getElem?_eq_some_iff.mp hj
  have := List.pairwise_iff_getElem.mp h i j h1 h3 hij
  rw [h2, h4] at this
  exact this
/-- behind the words ahead come those that are not -/
theorem ah_ge {ws : List wd} (h : so ws) {t : List Int} {i : Nat} {p : wd} (hi : ah ws t ≤ i) (hp : ws[i]? = some p) : lx p.1 t = false := by
  have hlt := (List.getElem?_eq_some_iff.mp hp).1
  have ha : ah ws t < ws.length := by omega
  have h1 := ah_at ws t _ (List.getElem?_eq_getElem ha)
  by_cases c : ah ws t = i
  · rw [c] at ha
    rw [List.getElem?_eq_getElem hlt] at hp
    injection hp with hp
    subst hp
    subst c
    exact h1
  · have h2 := so_get h (i := ah ws t) (j := i) (by omega) (List.getElem?_eq_getElem ha) hp
    cases h3 : lx p.1 t with
    | false => rfl
    | true =>
      rw [lx_tr _ _ _ h2 h3] at h1
      exact Bool.noConfusion h1
/-- a word stands at the place where it would -/
theorem ah_get {ws : List wd} (h : so ws) {i : Nat} {p : wd} (hp : ws[i]? = some p) : ah ws p.1 = i := by
  rcases Nat.lt_trichotomy (ah ws p.1) i with c | c | c
  · have hlt := (List.getElem?_eq_some_iff.mp hp).1
    have h1 := ah_at ws p.1 _ (List.getElem?_eq_getElem (show ah ws p.1 < ws.length by omega))
    have h2 := so_get h c (List.getElem?_eq_getElem (show ah ws p.1 < ws.length by omega)) hp
    rw [h2] at h1
    exact Bool.noConfusion h1
  · exact c
  · have h1 := ah_lt ws p.1 i p c hp
    rw [lx_irr] at h1
    exact Bool.noConfusion h1
/-- the place that has all words ahead on one side is that place -/
theorem ah_uniq {ws : List wd} {t : List Int} {r : Nat} (hr : r ≤ ws.length) (h1 : ∀ i p, i < r → ws[i]? = some p → lx p.1 t = true) (h2 : ∀ p, ws[r]? = some p → lx p.1 t = false) : ah ws t = r := by
  rcases Nat.lt_trichotomy (ah ws t) r with c | c | c
  · have ha : ah ws t < ws.length := by omega
    have := ah_at ws t _ (List.getElem?_eq_getElem ha)
    rw [h1 _ _ c (List.getElem?_eq_getElem ha)] at this
    exact Bool.noConfusion this
  · exact c
  · have ha : r < ws.length := by have := ah_le ws t; omega
    have h3 := h2 _ (List.getElem?_eq_getElem ha)
    rw [ah_lt ws t r _ c (List.getElem?_eq_getElem ha)] at h3
    exact Bool.noConfusion h3
/-- the number of a word that is there -/
def nu (ws : List wd) (t : List Int) : Option Int := match ws[ah ws t]? with
  | some p => if p.1 = t then some p.2 else none
  | none => none
theorem nu_some {ws : List wd} {t : List Int} {n : Int} (h : nu ws t = some n) : ws[ah ws t]? = some (t, n) := by
  unfold nu at h
  cases e : ws[ah ws t]? with
  | none => rw [e] at h; simp at h
  | some p =>
    rw [e] at h
    dsimp only at h
    by_cases c : p.1 = t
    · rw [if_pos c] at h
      injection h with h
      rw [← c, ← h]
    · rw [if_neg c] at h
      simp at h
theorem nu_none {ws : List wd} (hs : so ws) {t : List Int} (h : nu ws t = none) {i : Nat} {p : wd} (hp : ws[i]? = some p) : p.1 ≠ t := by
  intro e
  subst e
  have := ah_get hs hp
  unfold nu at h
  rw [this, hp] at h
  simp at h
theorem nu_get {ws : List wd} (hs : so ws) {i : Nat} {p : wd} (hp : ws[i]? = some p) : nu ws p.1 = some p.2 := by
  unfold nu
  rw [ah_get hs hp, hp]
  simp
/-- a word gets a number, there or new -/
def put (ws : List wd) (t : List Int) (n : Int) : List wd := ws.take (ah ws t) ++ (t, n) :: ws.drop (if nu ws t = none then ah ws t else ah ws t + 1)
theorem put_len (ws : List wd) (t : List Int) (n : Int) : (put ws t n).length = if nu ws t = none then ws.length + 1 else ws.length := by
  have h1 := ah_le ws t
  unfold put
  rw [List.length_append, List.length_take, List.length_cons, List.length_drop]
  by_cases c : nu ws t = none
  · rw [if_pos c, if_pos c]; omega
  · rw [if_neg c, if_neg c]
    obtain ⟨x, hx⟩ := Option.ne_none_iff_exists'.mp c
    have := (List.getElem?_eq_some_iff.mp (nu_some hx)).1
    omega
theorem put_get (ws : List wd) (t : List Int) (n : Int) (i : Nat) : (put ws t n)[i]? = if i < ah ws t then ws[i]? else if i = ah ws t then some (t, n) else if nu ws t = none then ws[i - 1]? else ws[i]? := by
  have h1 := ah_le ws t
  unfold put
  rw [List.getElem?_append]
  rw [List.length_take, Nat.min_eq_left h1]
  by_cases c : i < ah ws t
  · rw [if_pos c, if_pos c, List.getElem?_take_of_lt c]
  · rw [if_neg c, if_neg c]
    by_cases c2 : i = ah ws t
    · rw [if_pos c2, c2, Nat.sub_self]
      rfl
    · rw [if_neg c2, show i - ah ws t = (i - ah ws t - 1) + 1 by omega, List.getElem?_cons_succ, List.getElem?_drop]
      by_cases c3 : nu ws t = none
      · rw [if_pos c3, if_pos c3]; congr 1; omega
      · rw [if_neg c3, if_neg c3]; congr 1; omega
theorem put_so {ws : List wd} (hs : so ws) (t : List Int) (n : Int) : so (put ws t n) := by
  unfold so
  rw [List.pairwise_iff_getElem]
  intro i j hi hj hij
  have e1 : (put ws t n)[i]? = some (put ws t n)[i] := List.getElem?_eq_getElem hi
  have e2 : (put ws t n)[j]? = some (put ws t n)[j] := List.getElem?_eq_getElem hj
  generalize (put ws t n)[i] = p at e1 ⊢
  generalize (put ws t n)[j] = q at e2 ⊢
  rw [put_get] at e1 e2
  have up : ∀ k q, ah ws t ≤ k → ws[k]? = some q → nu ws t = none ∨ ah ws t < k → lx t q.1 = true := by
    intro k q hk hq hn
    rcases lx_tri t q.1 with g | g | g
    · exact g
    · exfalso
      rcases hn with hn | hn
      · exact nu_none hs hn hq g.symm
      · have := ah_get hs hq
        rw [← g] at this
        omega
    · rw [ah_ge hs hk hq] at g
      exact Bool.noConfusion g
  by_cases c1 : i < ah ws t
  · rw [if_pos c1] at e1
    by_cases c2 : j < ah ws t
    · rw [if_pos c2] at e2
      exact so_get hs hij e1 e2
    · rw [if_neg c2] at e2
      have h1 := ah_lt ws t i p c1 e1
      by_cases c3 : j = ah ws t
      · rw [if_pos c3] at e2
        injection e2 with e2
        rw [← e2]
        exact h1
      · rw [if_neg c3] at e2
        refine lx_tr _ t _ h1 ?_
        by_cases c4 : nu ws t = none
        · rw [if_pos c4] at e2
          exact up (j - 1) q (by omega) e2 (Or.inl c4)
        · rw [if_neg c4] at e2
          exact up j q (by omega) e2 (Or.inr (by omega))
  · rw [if_neg c1] at e1
    rw [if_neg (show ¬ j < ah ws t by omega), if_neg (show ¬ j = ah ws t by omega)] at e2
    by_cases c3 : i = ah ws t
    · rw [if_pos c3] at e1
      injection e1 with e1
      rw [← e1]
      by_cases c4 : nu ws t = none
      · rw [if_pos c4] at e2
        exact up (j - 1) q (by omega) e2 (Or.inl c4)
      · rw [if_neg c4] at e2
        exact up j q (by omega) e2 (Or.inr (by omega))
    · rw [if_neg c3] at e1
      by_cases c4 : nu ws t = none
      · rw [if_pos c4] at e1 e2
        exact so_get hs (show i - 1 < j - 1 by omega) e1 e2
      · rw [if_neg c4] at e1 e2
        exact so_get hs hij e1 e2
theorem put_mem {ws : List wd} {t : List Int} {n : Int} {p : wd} (h : p ∈ put ws t n) : p ∈ ws ∨ p = (t, n) := by
  unfold put at h
  rcases List.mem_append.mp h with g | g
  · exact Or.inl (List.mem_of_mem_take g)
  · rcases List.mem_cons.mp g with g | g
    · exact Or.inr g
    · exact Or.inl (List.mem_of_mem_drop g)
theorem put_ok {ws : List wd} (h : ok ws) {t : List Int} {n : Int} (hk : wk (t, n)) (hr : nu ws t = none → ws.length < 100) : ok (put ws t n) := by
  refine ⟨fun p hp => ?_, put_so h.2.1 t n, ?_⟩
  · rcases put_mem hp with g | g
    · exact h.1 p g
    · rw [g]; exact hk
  · rw [put_len]
    by_cases c : nu ws t = none
    · rw [if_pos c]; have := hr c; omega
    · rw [if_neg c]; exact h.2.2
theorem er_so {ws : List wd} (h : so ws) (k : Nat) : so (ws.eraseIdx k) := List.Pairwise.sublist (List.eraseIdx_sublist ws k) h
theorem er_ok {ws : List wd} (h : ok ws) (k : Nat) : ok (ws.eraseIdx k) := by
  refine ⟨fun p hp => h.1 p ((List.eraseIdx_sublist ws k).subset hp), er_so h.2.1 k, ?_⟩
  have := (List.eraseIdx_sublist ws k).length_le
  have := h.2.2
  omega
theorem ok_get {ws : List wd} (h : ok ws) {i : Nat} {p : wd} (hp : ws[i]? = some p) : wk p := h.1 p (List.mem_of_getElem? hp)
theorem ok_nil : ok [] := ⟨fun p hp => by simp at hp, List.Pairwise.nil, by simp⟩
/-- how letters stand to a word, as a number -/
def cw : List Int → List Int → Int
  | [], v => - (v.length : Int)
  | x :: w, [] => (w.length : Int) + 1
  | x :: w, y :: v => if x - y = 0 then cw w v else x - y
theorem cw_lt : ∀ (w v : List Int), cw w v < 0 ↔ lx w v = true
  | [], [] => by simp [cw, lx]
  | [], y :: v => by simp [cw, lx]
  | x :: w, [] => by simp [cw, lx]; omega
  | x :: w, y :: v => by
    have ih := cw_lt w v
    simp only [cw, lx, Bool.or_eq_true, Bool.and_eq_true, decide_eq_true_eq, ← ih]
    split
    · constructor
      · intro h; exact Or.inr ⟨by omega, h⟩
      · rintro (h | h)
        · omega
        · exact h.2
    · omega
theorem cw_eq : ∀ (w v : List Int), cw w v = 0 ↔ w = v
  | [], [] => by simp [cw]
  | [], y :: v => by simp [cw]; omega
  | x :: w, [] => by simp [cw]; omega
  | x :: w, y :: v => by
    have ih := cw_eq w v
    simp only [cw]
    split
    · rw [ih]
      constructor
      · intro h; rw [h, show x = y by omega]
      · intro h; injection h
    · constructor
      · intro h; omega
      · intro h; injection h; omega
theorem cw_gt (w v : List Int) : 0 < cw w v ↔ lx v w = true := by
  have h1 := cw_lt w v
  have h2 := cw_eq w v
  rcases lx_tri w v with h | h | h
  · have h3 := lx_asy h
    rw [h3]
    have := h1.mpr h
    constructor
    · intro _; omega
    · intro g; exact Bool.noConfusion g
  · have := h2.mpr h
    rw [h, lx_irr]
    rw [h] at this
    constructor
    · intro _; omega
    · intro g; exact Bool.noConfusion g
  · rw [h]
    constructor
    · intro _; rfl
    · intro _
      rcases Int.lt_trichotomy (cw w v) 0 with g | g | g
      · rw [lx_asy (h1.mp g)] at h
        exact Bool.noConfusion h
      · rw [h2.mp g, lx_irr] at h
        exact Bool.noConfusion h
      · exact g
theorem dr_cons {t : List Int} {k : Nat} (h : k < t.length) : t.drop k = t.getD k 0 :: t.drop (k + 1) := by
  rw [List.drop_eq_getElem_cons h, List.getD_eq_getElem?_getD, List.getElem?_eq_getElem h]
  rfl
