/-! machines that were read -/
def arOK (q : Int) (as : List arc) : Prop := (∀ a ∈ as, (1 ≤ a.1 ∧ a.1 ≤ 26) ∧ ((0 ≤ a.2.1 ∧ a.2.1 ≤ 999999) ∧ (0 ≤ a.2.2 ∧ a.2.2 < q))) ∧ as.Pairwise (fun a b => a.1 < b.1)
def stOK (q : Int) (x : sta) : Prop := (x.1 = -2 ∨ (0 ≤ x.1 ∧ x.1 ≤ 999999)) ∧ arOK q x.2
def mach (ss : List sta) : Prop := ∀ x ∈ ss, stOK (ss.length : Int) x
theorem rdA_mk {t : List Int} {q : Int} : ∀ {n a : Nat} {l : Int} {b : Nat} {as : List arc}, rdA t q n a l = .inr (b, as) → 0 ≤ l → arOK q as ∧ ∀ y ∈ as, l < y.1
  | 0, a, l, b, as, h, h0 => by
    unfold rdA at h
    injection h with h; injection h with h1 h2
    rw [← h2]
    exact ⟨⟨fun y hy => by simp at hy, List.Pairwise.nil⟩, fun y hy => by simp at hy⟩
  | n + 1, a, l, b, as, h, h0 => by
    unfold rdA at h
    split at h; · simp at h
    next b1 x e1 =>
    split at h; · simp at h
    next b2 o e2 =>
    split at h; · simp at h
    next b3 z e3 =>
    split at h; · simp at h
    next b4 as' e4 =>
    injection h with h; injection h with h1 h2
    have k1 := (rdN_ok e1).2
    have k2 := (rdN_ok e2).2
    have k3 := (rdN_ok e3).2
    obtain ⟨⟨i1, i2⟩, i3⟩ := rdA_mk e4 (by omega)
    rw [← h2]
    refine ⟨⟨fun y hy => ?_, List.pairwise_cons.mpr ⟨i3, i2⟩⟩, fun y hy => ?_⟩
    · rcases List.mem_cons.mp hy with g | g
      · rw [g]; dsimp only; omega
      · exact i1 y g
    · rcases List.mem_cons.mp hy with g | g
      · rw [g]; dsimp only; omega
      · have := i3 y g; omega
theorem rdS_mk {t : List Int} {q : Int} {a b : Nat} {x : sta} (h : rdS t q a = .inr (b, x)) : stOK q x := by
  unfold rdS at h
  split at h; · simp at h
  next b1 v e1 =>
  split at h
  · split at h; · simp at h
    next b2 e e2 =>
    split at h; · simp at h
    next b3 as e3 =>
    injection h with h; injection h with h1 h2
    have := (rdN_ok e2).2
    rw [← h2]
    exact ⟨Or.inr this, (rdA_mk e3 (by decide)).1⟩
  · split at h; · simp at h
    next b3 as e3 =>
    injection h with h; injection h with h1 h2
    rw [← h2]
    exact ⟨Or.inl rfl, (rdA_mk e3 (by decide)).1⟩
theorem rdSs_mk {t : List Int} {q : Int} : ∀ {n a b : Nat} {ss : List sta}, rdSs t q n a = .inr (b, ss) → ss.length = n ∧ ∀ x ∈ ss, stOK q x
  | 0, a, b, ss, h => by
    unfold rdSs at h
    injection h with h; injection h with h1 h2
    rw [← h2]
    exact ⟨rfl, fun y hy => by simp at hy⟩
  | n + 1, a, b, ss, h => by
    unfold rdSs at h
    split at h; · simp at h
    next b1 x e1 =>
    split at h; · simp at h
    next b2 ss' e2 =>
    injection h with h; injection h with h1 h2
    obtain ⟨i1, i2⟩ := rdSs_mk e2
    rw [← h2]
    refine ⟨by rw [List.length_cons, i1], fun y hy => ?_⟩
    rcases List.mem_cons.mp hy with g | g
    · rw [g]; exact rdS_mk e1
    · exact i2 y g
theorem rdB_mk {t : List Int} {u : Int} {ss : List sta} (h : rdB t = .inr (u, ss)) : mach ss := by
  unfold rdB at h
  split at h; · simp at h
  next a q e1 =>
  split at h; · simp at h
  next b u' e2 =>
  split at h; · simp at h
  next c ss' e3 =>
  split at h
  · injection h with h; injection h with h1 h2
    obtain ⟨i1, i2⟩ := rdSs_mk e3
    have := (rdN_ok e1).2
    rw [← h2]
    intro x hx
    have := i2 x hx
    rwa [show (ss'.length : Int) = q by omega]
  · simp at h
/-- a state's end and arcs -/
def eOf (ss : List sta) (s : Nat) : Int := (ss.getD s (-2, [])).1
def aOf (ss : List sta) (s : Nat) : List arc := (ss.getD s (-2, [])).2
theorem of_get {ss : List sta} {s : Nat} (h : s < ss.length) : ss[s]? = some (eOf ss s, aOf ss s) := by
  unfold eOf aOf
  rw [List.getElem?_eq_getElem h, List.getD_eq_getElem?_getD, List.getElem?_eq_getElem h]
  rfl
theorem of_ok {ss : List sta} (hm : mach ss) {s : Nat} (h : s < ss.length) : (eOf ss s = -2 ∨ (0 ≤ eOf ss s ∧ eOf ss s ≤ 999999)) ∧ arOK ss.length (aOf ss s) := hm _ (List.mem_of_getElem? (of_get h))
/-- may a state be come to with d letters -/
def rc (ss : List sta) : Nat → Nat → Bool
  | 0, s => decide (s = 0)
  | d + 1, s => (List.range ss.length).any (fun p => rc ss d p && (aOf ss p).any (fun a => decide (a.2.2 = (s : Int))))
theorem rc_s {ss : List sta} {d s : Nat} : rc ss (d + 1) s = true ↔ ∃ p, p < ss.length ∧ rc ss d p = true ∧ ∃ a ∈ aOf ss p, a.2.2 = (s : Int) := by
  rw [rc, List.any_eq_true]
  constructor
  · rintro ⟨p, h1, h2⟩
    rw [Bool.and_eq_true, List.any_eq_true] at h2
    obtain ⟨h3, a, h4, h5⟩ := h2
    exact ⟨p, List.mem_range.mp h1, h3, a, h4, of_decide_eq_true h5⟩
  · rintro ⟨p, h1, h2, a, h3, h4⟩
    refine ⟨p, List.mem_range.mpr h1, ?_⟩
    rw [Bool.and_eq_true, List.any_eq_true]
    exact ⟨h2, a, h3, decide_eq_true h4⟩
/-- how many words of at most n letters begin at a state; 101 for more than 100 -/
def cwn (ss : List sta) : Nat → Nat → Nat
  | 0, s => if eOf ss s = -2 then 0 else 1
  | n + 1, s => min 101 ((if eOf ss s = -2 then 0 else 1) + ((aOf ss s).map (fun a => cwn ss n a.2.2.toNat)).sum)
/-- is it a set of words -/
def aw (ss : List sta) : Prop := (∀ s, s < ss.length → rc ss 11 s = false) ∧ (eOf ss 0 = -2 ∧ cwn ss 10 0 ≤ 100) ∧ ∀ d s, 1 ≤ d → d ≤ 10 → s < ss.length → rc ss d s = true → cwn ss (10 - d) s ≠ 0
/-- the words of at most n letters from a state, in their order, with their numbers -/
def wy (ss : List sta) : Nat → Nat → List wd
  | 0, s => if eOf ss s = -2 then [] else [([], eOf ss s)]
  | n + 1, s => (if eOf ss s = -2 then [] else [([], eOf ss s)]) ++ (aOf ss s).flatMap (fun a => (wy ss n a.2.2.toNat).map (fun w => (a.1 :: w.1, a.2.1 + w.2)))
theorem cwn_wy (ss : List sta) : ∀ n s, cwn ss n s = min 101 (wy ss n s).length
  | 0, s => by unfold cwn wy; split <;> simp
  | n + 1, s => by
    have key : ∀ l : List arc, (∀ e : Nat, min 101 (e + (l.map (fun a => cwn ss n a.2.2.toNat)).sum) = min 101 (e + (l.flatMap (fun a => (wy ss n a.2.2.toNat).map (fun w => (a.1 :: w.1, a.2.1 + w.2)))).length)) := by
      intro l
      induction l with
      | nil => intro e; simp
      | cons a l ih =>
        intro e
        rw [List.map_cons, List.sum_cons, List.flatMap_cons, List.length_append, List.length_map, cwn_wy ss n]
        have := ih (e + (wy ss n a.2.2.toNat).length)
        omega
    unfold cwn wy
    rw [key, List.length_append]
    split <;> simp
