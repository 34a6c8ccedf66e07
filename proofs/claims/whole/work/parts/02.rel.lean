/-! how the small machine's cells lie in the real heap -/
def am_cv (ad : Nat → Nat) (v : am_V) : Value := match v with
  | .inl x => .int (Int32.ofInt x)
  | .inr (.inl x) => .long (Int64.ofInt x)
  | .inr (.inr none) => .null
  | .inr (.inr (some q)) => .ref (ad q)
def am_cE (tA : Nat → ClassId) (ad : Nat → Nat) (e : am_E) : va_E := match e with
  | .inl (t, n, .inl f) => .inl (tA t, n, .inl (fun j => Int32.ofInt (f j)))
  | .inl (t, n, .inr (.inl f)) => .inl (tA t, n, .inr (.inl (fun j => Int64.ofInt (f j))))
  | .inl (t, n, .inr (.inr f)) => .inl (tA t, n, .inr (.inr (.inr (.inr (fun j => (f j).map ad)))))
  | .inr (c, fs) => .inr (c, fs.map (am_cv ad))
def am_ws (tA : Nat → ClassId) (ad : Nat → Nat) (h : am_H) : va_W := (List.range (h.1.1 - 1)).map (fun k => (ad (k + 1), am_cE tA ad (h.2 (k + 1))))
def am_okV (n : Nat) (v : am_V) : Prop := match v with
  | .inl x => am_inI x
  | .inr (.inl x) => am_inL x
  | .inr (.inr none) => True
  | .inr (.inr (some q)) => q < n
def am_okE (n : Nat) (e : am_E) : Prop := match e with
  | .inl (t, N, .inl f) => N < 2 ^ 31 ∧ (∀ j, am_inI (f j)) ∧ (t = 0 ∨ t = 2 ∨ t = 3 ∨ t = 5)
  | .inl (t, N, .inr (.inl f)) => N < 2 ^ 31 ∧ (∀ j, am_inL (f j)) ∧ t = 1
  | .inl (t, N, .inr (.inr f)) => N < 2 ^ 31 ∧ (∀ j q, f j = some q → q < n) ∧ t = 4
  | .inr (_, fs) => ∀ v ∈ fs, am_okV n v
theorem am_okV_mono {n n' : Nat} (h : n ≤ n') {v : am_V} (hv : am_okV n v) : am_okV n' v := by
  rcases v with x | x | _ | q
  · exact hv
  · exact hv
  · trivial
  · exact Nat.lt_of_lt_of_le hv h
theorem am_okE_mono {n n' : Nat} (h : n ≤ n') {e : am_E} (hv : am_okE n e) : am_okE n' e := by
  rcases e with ⟨t, N, f | f | f⟩ | ⟨c, fs⟩
  · exact hv
  · exact hv
  · exact ⟨hv.1, fun j q hq => Nat.lt_of_lt_of_le (hv.2.1 j q hq) h, hv.2.2⟩
  · exact fun v hm => am_okV_mono h (hv v hm)
theorem am_cv_ext {ad ad' : Nat → Nat} {n : Nat} (h : ∀ k, k < n → ad' k = ad k) {v : am_V} (hv : am_okV n v) : am_cv ad' v = am_cv ad v := by
  rcases v with x | x | _ | q
  · rfl
  · rfl
  · rfl
  · exact congrArg Value.ref (h q hv)
theorem am_cvs_ext {ad ad' : Nat → Nat} {n : Nat} (h : ∀ k, k < n → ad' k = ad k) {l : List am_V} (hv : ∀ v ∈ l, am_okV n v) : l.map (am_cv ad') = l.map (am_cv ad) :=
  List.map_congr_left fun v hm => am_cv_ext h (hv v hm)
theorem am_cE_ext {tA : Nat → ClassId} {ad ad' : Nat → Nat} {n : Nat} (h : ∀ k, k < n → ad' k = ad k) {e : am_E} (hv : am_okE n e) : am_cE tA ad' e = am_cE tA ad e := by
  rcases e with ⟨t, N, f | f | f⟩ | ⟨c, fs⟩
  · rfl
  · rfl
  · have : (fun j => (f j).map ad') = (fun j => (f j).map ad) := by
      funext j
      cases hf : f j with
      | none => rfl
      | some q => exact congrArg some (h q (hv.2.1 j q hf))
    simp only [am_cE, this]
  · simp only [am_cE, am_cvs_ext h hv]
theorem am_ws_at {tA : Nat → ClassId} {ad : Nat → Nat} {h : am_H} {a : Nat} (h0 : a ≠ 0) (h1 : a < h.1.1) : (am_ws tA ad h)[a - 1]? = some (ad a, am_cE tA ad (h.2 a)) := by
  unfold am_ws
  rw [List.getElem?_map, List.getElem?_range (by omega)]
  show some (ad (a - 1 + 1), am_cE tA ad (h.2 (a - 1 + 1))) = _
  rw [show a - 1 + 1 = a by omega]
theorem am_ws_up {tA : Nat → ClassId} {ad : Nat → Nat} {h : am_H} {a : Nat} {e : am_E} (h0 : a ≠ 0) (h1 : a < h.1.1) : am_ws tA ad (am_up h a e) = (am_ws tA ad h).set (a - 1) (ad a, am_cE tA ad e) := by
  apply List.ext_getElem?
  intro k
  unfold am_ws am_up
  rw [List.getElem?_set, List.getElem?_map, List.getElem?_map]
  simp only [List.length_map, List.length_range]
  by_cases hk : k < h.1.1 - 1
  · rw [List.getElem?_range hk]
    simp only [Option.map_some]
    by_cases hka : a - 1 = k
    · obtain rfl : a = k + 1 := by omega
      simp [hk]
    · rw [if_neg hka, if_neg (show ¬ k + 1 = a by omega)]
  · rw [if_neg (show ¬ a - 1 = k by omega), List.getElem?_eq_none (by simp only [List.length_range]; omega)]
    rfl
theorem am_ws_push {tA : Nat → ClassId} {ad ad' : Nat → Nat} {h : am_H} {q : Nat} {e : am_E} (hn : 1 ≤ h.1.1) (hq : ad' h.1.1 = q) (ha : ∀ k, k < h.1.1 → ad' k = ad k) (ho : ∀ k, am_okE h.1.1 (h.2 k)) :
    am_ws tA ad' (am_push h e) = am_ws tA ad h ++ [(q, am_cE tA ad' e)] := by
  subst hq
  unfold am_ws am_push
  dsimp only
  rw [show h.1.1 + 1 - 1 = (h.1.1 - 1) + 1 by omega, List.range_succ, List.map_append]
  congr 1
  · apply List.map_congr_left
    intro k hk
    have hk' := List.mem_range.mp hk
    rw [if_neg (by omega), ha _ (by omega), am_cE_ext ha (ho _)]
  · simp only [List.map_cons, List.map_nil]
    rw [show h.1.1 - 1 + 1 = h.1.1 by omega, if_pos rfl]
-- locals
def am_prs (ad : Nat → Nat) (ls : List am_V) : List (Nat × Value) := (List.range ls.length).filterMap (fun i => match (ls[i]? : Option am_V) with
  | some (.inl x) => some (i, Value.int (Int32.ofInt x))
  | some (.inr (.inl x)) => some (i, Value.long (Int64.ofInt x))
  | some (.inr (.inr (some q))) => some (i, Value.ref (ad q))
  | _ => none)
def am_LR (ad : Nat → Nat) (ls : List am_V) (lsC : Array Slot) : Prop := lsC.size = ls.length ∧ lv_wf lsC ∧ ∀ (i : Nat) (v : am_V), ls[i]? = some v → v ≠ am_nul → lsC[i]? = some (.val (am_cv ad v))
theorem am_prs_mem {ad : Nat → Nat} {ls : List am_V} {q : Nat × Value} (h : q ∈ am_prs ad ls) : ∃ v, ls[q.1]? = some v ∧ v ≠ am_nul ∧ q.2 = am_cv ad v := by
  obtain ⟨i, -, hi⟩ := List.mem_filterMap.mp h
  split at hi
  next x hx => cases hi; exact ⟨_, hx, by simp [am_nul], rfl⟩
  next x hx => cases hi; exact ⟨_, hx, by simp [am_nul], rfl⟩
  next x hx => cases hi; exact ⟨_, hx, by simp [am_nul], rfl⟩
  next => cases hi
theorem am_mem_prs {ad : Nat → Nat} {ls : List am_V} {i : Nat} {v : am_V} (h : ls[i]? = some v) (hv : v ≠ am_nul) : (i, am_cv ad v) ∈ am_prs ad ls := by
  have hl : i < ls.length := (List.getElem?_eq_some_iff.mp h).1
  refine List.mem_filterMap.mpr ⟨i, List.mem_range.mpr hl, ?_⟩
  rw [h]
  rcases v with x | x | _ | q
  · rfl
  · rfl
  · exact absurd rfl hv
  · rfl
theorem am_LR.has {ad : Nat → Nat} {ls : List am_V} {lsC : Array Slot} (h : am_LR ad ls lsC) : lv_has lsC ls.length (am_prs ad ls) := by
  refine ⟨h.1, h.2.1, fun q hq => ?_⟩
  obtain ⟨v, h1, h2, h3⟩ := am_prs_mem hq
  rw [h3]
  exact h.2.2 _ _ h1 h2
theorem am_cat_cv {ad : Nat → Nat} {v : am_V} : (am_cv ad v).category = am_cat v := by
  rcases v with x | x | _ | q <;> rfl
theorem am_kill_get {ls : List am_V} {i j : Nat} {v : am_V} (h : (am_kill ls i)[j]? = some v) (hv : v ≠ am_nul) : ls[j]? = some v ∧ ¬ (j + 1 = i ∧ am_cat v = 2) := by
  unfold am_kill at h
  cases i with
  | zero => exact ⟨h, fun q => by omega⟩
  | succ i =>
    dsimp only at h
    split at h
    next hL =>
      rw [List.getElem?_set] at h
      split at h
      next hij =>
        split at h
        next => exact absurd (Option.some.inj h).symm hv
        next => cases h
      next hij => exact ⟨h, fun q => hij (by omega)⟩
    next hL =>
      refine ⟨h, fun q => hL ?_⟩
      have : j = i := by omega
      subst this
      rw [h]
      rcases v with x | x | _ | w
      · exact absurd q.2 (by simp [am_cat])
      · rfl
      · exact absurd q.2 (by simp [am_cat])
      · exact absurd q.2 (by simp [am_cat])
theorem am_kill_len (ls : List am_V) (i : Nat) : (am_kill ls i).length = ls.length := by
  unfold am_kill
  cases i with
  | zero => rfl
  | succ i => dsimp only; split <;> simp
theorem am_st1_len (ls : List am_V) (i : Nat) (v : am_V) : (am_st1 ls i v).length = ls.length := by
  unfold am_st1; rw [List.length_set, am_kill_len]
theorem am_st2_len (ls : List am_V) (i : Nat) (v : am_V) : (am_st2 ls i v).length = ls.length := by
  unfold am_st2; rw [List.length_set, List.length_set, am_kill_len]
theorem am_LR.st1 {ad : Nat → Nat} {ls : List am_V} {i : Nat} {v : am_V} {ls' : Array Slot} (h : lv_has ls' ls.length ((i, am_cv ad v) :: (am_prs ad ls).filter (fun q => !(q.1 == i) && !(q.1 + 1 == i && q.2.category == 2)))) : am_LR ad (am_st1 ls i v) ls' := by
  refine ⟨by rw [am_st1_len]; exact h.1, h.2.1, fun j w hj hw => ?_⟩
  unfold am_st1 at hj
  rw [List.getElem?_set] at hj
  split at hj
  next hij =>
    split at hj
    next =>
      cases hj
      subst hij
      exact h.2.2 (i, am_cv ad v) List.mem_cons_self
    next => cases hj
  next hij =>
    obtain ⟨h1, h2⟩ := am_kill_get hj hw
    refine h.2.2 (j, am_cv ad w) (List.mem_cons_of_mem _ (List.mem_filter.mpr ⟨am_mem_prs h1 hw, ?_⟩))
    simp only [Bool.and_eq_true, Bool.not_eq_true', beq_eq_false_iff_ne, ne_eq, Bool.and_eq_false_iff, am_cat_cv]
    refine ⟨fun q => hij q.symm, ?_⟩
    by_cases hz : j + 1 = i
    · exact Or.inr (fun q => h2 ⟨hz, q⟩)
    · exact Or.inl hz
theorem am_LR.st2 {ad : Nat → Nat} {ls : List am_V} {i : Nat} {v : am_V} {ls' : Array Slot} (h : lv_has ls' ls.length ((i, am_cv ad v) :: (am_prs ad ls).filter (fun q => !(q.1 == i) && (!(q.1 == i + 1) && !(q.1 + 1 == i && q.2.category == 2))))) : am_LR ad (am_st2 ls i v) ls' := by
  refine ⟨by rw [am_st2_len]; exact h.1, h.2.1, fun j w hj hw => ?_⟩
  unfold am_st2 at hj
  rw [List.getElem?_set] at hj
  split at hj
  next hij =>
    split at hj
    next => exact absurd (Option.some.inj hj).symm hw
    next => cases hj
  next hij2 =>
    rw [List.getElem?_set] at hj
    split at hj
    next hij =>
      split at hj
      next =>
        cases hj
        subst hij
        exact h.2.2 (i, am_cv ad v) List.mem_cons_self
      next => cases hj
    next hij =>
      obtain ⟨h1, h2⟩ := am_kill_get hj hw
      refine h.2.2 (j, am_cv ad w) (List.mem_cons_of_mem _ (List.mem_filter.mpr ⟨am_mem_prs h1 hw, ?_⟩))
      simp only [Bool.and_eq_true, Bool.not_eq_true', beq_eq_false_iff_ne, ne_eq, Bool.and_eq_false_iff, am_cat_cv]
      refine ⟨fun q => hij q.symm, fun q => hij2 q.symm, ?_⟩
      by_cases hz : j + 1 = i
      · exact Or.inr (fun q => h2 ⟨hz, q⟩)
      · exact Or.inl hz
theorem am_LR.ext {ad ad' : Nat → Nat} {n : Nat} (h : ∀ k, k < n → ad' k = ad k) {ls : List am_V} (hv : ∀ v ∈ ls, am_okV n v) {lsC : Array Slot} (hl : am_LR ad ls lsC) : am_LR ad' ls lsC :=
  ⟨hl.1, hl.2.1, fun i v hi hn => by rw [am_cv_ext h (hv v (List.mem_of_getElem? hi))]; exact hl.2.2 i v hi hn⟩
theorem am_kill_ok {n : Nat} {ls : List am_V} (h : ∀ v ∈ ls, am_okV n v) (i : Nat) : ∀ v ∈ am_kill ls i, am_okV n v := by
  unfold am_kill
  cases i with
  | zero => exact h
  | succ i =>
    dsimp only
    split
    next =>
      intro v hv
      rcases List.mem_or_eq_of_mem_set hv with h1 | h1
      · exact h v h1
      · subst h1; trivial
    next => exact h
theorem am_st1_ok {n : Nat} {ls : List am_V} (h : ∀ v ∈ ls, am_okV n v) (i : Nat) {w : am_V} (hw : am_okV n w) : ∀ v ∈ am_st1 ls i w, am_okV n v := by
  intro v hv
  rcases List.mem_or_eq_of_mem_set hv with h1 | h1
  · exact am_kill_ok h i v h1
  · subst h1; exact hw
theorem am_st2_ok {n : Nat} {ls : List am_V} (h : ∀ v ∈ ls, am_okV n v) (i : Nat) {w : am_V} (hw : am_okV n w) : ∀ v ∈ am_st2 ls i w, am_okV n v := by
  intro v hv
  rcases List.mem_or_eq_of_mem_set hv with h1 | h1
  · rcases List.mem_or_eq_of_mem_set h1 with h2 | h2
    · exact am_kill_ok h i v h2
    · subst h2; exact hw
  · subst h1; trivial
-- the entry of a method
theorem am_sl_eq (ad : Nat → Nat) : ∀ (args : List am_V), (lg_sl (args.map (am_cv ad))).length = (am_sl args).length
  | [] => rfl
  | v :: l => by
    have ih := am_sl_eq ad l
    rcases v with x | x | _ | q <;> simp [lg_sl, am_sl, am_cv, Value.category] at ih ⊢ <;> omega
theorem am_args_get (ad : Nat → Nat) : ∀ (args : List am_V) (k i : Nat) (v : am_V), (am_sl args)[i]? = some v → v ≠ am_nul → (k + i, am_cv ad v) ∈ lv_args k (args.map (am_cv ad))
  | [], k, i, v, h, _ => by simp [am_sl] at h
  | w :: l, k, i, v, h, hv => by
    have ih := am_args_get ad l
    have go1 : ∀ (u : am_V), am_cat u = 1 → (u :: am_sl l)[i]? = some v → (k + i, am_cv ad v) ∈ lv_args k ((u :: l).map (am_cv ad)) := by
      intro u hu h
      have hc : ¬ (am_cv ad u).category = 2 := by rw [am_cat_cv]; omega
      simp only [List.map_cons, lv_args, hc, if_false]
      cases i with
      | zero => cases h; exact List.mem_cons_self
      | succ i =>
        have := ih (k + 1) i v h hv
        rw [show k + (i + 1) = k + 1 + i by omega]
        exact List.mem_cons_of_mem _ this
    rcases w with x | x | _ | q
    · exact go1 _ rfl h
    · have hc : (am_cv ad (.inr (.inl x))).category = 2 := rfl
      simp only [List.map_cons, lv_args, hc, if_true]
      cases i with
      | zero => cases h; exact List.mem_cons_self
      | succ i =>
        cases i with
        | zero => cases h; exact absurd rfl hv
        | succ i =>
          have := ih (k + 2) i v h hv
          rw [show k + (i + 1 + 1) = k + 2 + i by omega]
          exact List.mem_cons_of_mem _ this
    · exact go1 _ rfl h
    · exact go1 _ rfl h
theorem am_entry_LR {ad : Nat → Nat} {args : List am_V} {n : Nat} (h : (am_sl args).length ≤ n) :
    am_LR ad (am_entry args n) ((lg_sl (args.map (am_cv ad)) ++ List.replicate (n - (lg_sl (args.map (am_cv ad))).length) Slot.unset).toArray) := by
  have hl := lv_entry (args.map (am_cv ad)) (n := n) (by rw [am_sl_eq]; exact h)
  refine ⟨?_, hl.2.1, fun i v hi hv => ?_⟩
  · rw [hl.1]; unfold am_entry; simp; omega
  · unfold am_entry at hi
    by_cases hlt : i < (am_sl args).length
    · rw [List.getElem?_append_left hlt] at hi
      have := am_args_get ad args 0 i v hi hv
      exact hl.2.2 (i, am_cv ad v) (by simpa using this)
    · rw [List.getElem?_append_right (by omega)] at hi
      have := List.eq_of_mem_replicate (List.mem_of_getElem? hi)
      exact absurd this hv
theorem am_entry_len {args : List am_V} {n : Nat} (h : (am_sl args).length ≤ n) : (am_entry args n).length = n := by
  unfold am_entry; simp; omega
theorem am_sl_ok {n : Nat} : ∀ {args : List am_V}, (∀ v ∈ args, am_okV n v) → ∀ v ∈ am_sl args, am_okV n v
  | [], _, v, hv => by simp [am_sl] at hv
  | w :: l, h, v, hv => by
    have ih := am_sl_ok (n := n) (args := l) (fun u hu => h u (List.mem_cons_of_mem _ hu))
    have h0 := h w List.mem_cons_self
    rcases w with x | x | _ | q
    · rcases List.mem_cons.mp hv with rfl | hv
      · exact h0
      · exact ih v hv
    · rcases List.mem_cons.mp hv with rfl | hv
      · exact h0
      · rcases List.mem_cons.mp hv with rfl | hv
        · trivial
        · exact ih v hv
    · rcases List.mem_cons.mp hv with rfl | hv
      · exact h0
      · exact ih v hv
    · rcases List.mem_cons.mp hv with rfl | hv
      · exact h0
      · exact ih v hv
theorem am_entry_ok {n k : Nat} {args : List am_V} (h : ∀ v ∈ args, am_okV n v) : ∀ v ∈ am_entry args k, am_okV n v := by
  intro v hv
  rcases List.mem_append.mp hv with h1 | h1
  · exact am_sl_ok h v h1
  · rw [List.eq_of_mem_replicate h1]; trivial
theorem am_cats_cv {ad : Nat → Nat} : ∀ {l : List am_V}, ((l.map (am_cv ad)).map fun v => v.category).sum = am_cats l
  | [] => rfl
  | v :: l => by
    have ih := am_cats_cv (ad := ad) (l := l)
    simp only [List.map_cons, List.sum_cons, am_cats, am_cat_cv]
    simp only [List.map_map] at ih ⊢
    rw [ih]
