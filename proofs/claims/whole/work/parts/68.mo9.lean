/-! join: the model's -/
def byR (rule a b : Int) : Int := if rule = 0 then am_min (a + b) 999999 else if rule = 1 then am_min a b else if rule = 2 then am_max a b else if rule = 3 then a else b
theorem byR_bd {rule a b : Int} (ha : 0 ≤ a ∧ a ≤ 999999) (hb : 0 ≤ b ∧ b ≤ 999999) : 0 ≤ byR rule a b ∧ byR rule a b ≤ 999999 := by
  unfold byR am_min am_max
  split
  · split <;> omega
  · split
    · split <;> omega
    · split
      · split <;> omega
      · split <;> omega
/-- the NUMBER that a word gets that has the one here (or none), the other there -/
def jnum (a b : Option Int) (how rule : Int) : Option Int := match a, b with
  | some x, some y => if how < 2 then some (byR rule x y) else none
  | some x, none => if how = 1 then none else some x
  | none, some y => if how = 0 then some y else none
  | none, none => none
def js1 (v : List wd) (how rule : Int) (acc : List wd) (p : wd) : List wd := match jnum (some p.2) (nu v p.1) how rule with
  | some n => put acc p.1 n
  | none => acc
def js2 (ws : List wd) (how : Int) (acc : List wd) (q : wd) : List wd := if nu ws q.1 = none ∧ how = 0 then put acc q.1 q.2 else acc
def jn (ws v : List wd) (how rule : Int) : List wd := v.foldl (js2 ws how) (ws.foldl (js1 v how rule) [])
def tog (ws v : List wd) : Nat := ws.length + (v.filter (fun q => decide (nu ws q.1 = none))).length
theorem put_mem' {acc : List wd} (hs : so acc) {t t' : List Int} {n n' : Int} : (t', n') ∈ put acc t n ↔ (t' = t ∧ n' = n) ∨ (t' ≠ t ∧ (t', n') ∈ acc) := by
  constructor
  · intro h
    rcases put_mem h with g | g
    · by_cases c : t' = t
      · left
        refine ⟨c, ?_⟩
        subst c
        have h1 := nu_get (put_so hs t' n) (List.getElem?_of_mem h).choose_spec
        have hp : (put acc t' n)[ah acc t']? = some (t', n) := by rw [put_get, if_neg (by omega), if_pos rfl]
        have h2 := nu_get (put_so hs t' n) hp
        dsimp only at h1 h2
        rw [h1] at h2
        injection h2
      · exact Or.inr ⟨c, g⟩
    · injection g with g1 g2
      exact Or.inl ⟨g1, g2⟩
  · rintro (⟨h1, h2⟩ | ⟨h1, h2⟩)
    · subst h1 h2
      unfold put
      simp
    · obtain ⟨i, hi⟩ := List.getElem?_of_mem h2
      have ha := ah_get hs hi
      have hlt := (List.getElem?_eq_some_iff.mp hi).1
      by_cases c1 : i < ah acc t
      · exact List.mem_of_getElem? (i := i) (by rw [put_get, if_pos c1]; exact hi)
      · by_cases c2 : nu acc t = none
        · exact List.mem_of_getElem? (i := i + 1) (by rw [put_get, if_neg (by omega), if_neg (by omega), if_pos c2]; exact hi)
        · have c3 : i ≠ ah acc t := by
            intro e
            obtain ⟨x, hx⟩ := Option.ne_none_iff_exists'.mp c2
            have := nu_some hx
            rw [← e, hi] at this
            injection this with this
            injection this with this _
            exact h1 this
          exact List.mem_of_getElem? (i := i) (by rw [put_get, if_neg c1, if_neg c3, if_neg c2]; exact hi)
theorem put_le (acc : List wd) (t : List Int) (n : Int) : (put acc t n).length ≤ acc.length + 1 := by rw [put_len]; split <;> omega
theorem put_wk {acc : List wd} (h : ∀ p ∈ acc, wk p) {t : List Int} {n : Int} (hk : wk (t, n)) : ∀ p ∈ put acc t n, wk p := by
  intro p hp
  rcases put_mem hp with g | g
  · exact h p g
  · rw [g]; exact hk
theorem jnum_bd {a b : Option Int} {how rule n : Int} (ha : ∀ x, a = some x → 0 ≤ x ∧ x ≤ 999999) (hb : ∀ x, b = some x → 0 ≤ x ∧ x ≤ 999999) (h : jnum a b how rule = some n) : 0 ≤ n ∧ n ≤ 999999 := by
  unfold jnum at h
  cases a with
  | none =>
    cases b with
    | none => simp at h
    | some y =>
      dsimp only at h
      split at h
      · injection h with h; rw [← h]; exact hb y rfl
      · simp at h
  | some x =>
    cases b with
    | none =>
      dsimp only at h
      split at h
      · simp at h
      · injection h with h; rw [← h]; exact ha x rfl
    | some y =>
      dsimp only at h
      split at h
      · injection h with h; rw [← h]; exact byR_bd (ha x rfl) (hb y rfl)
      · simp at h
theorem nu_bd {v : List wd} (h : ok v) {t : List Int} {x : Int} (e : nu v t = some x) : 0 ≤ x ∧ x ≤ 999999 := (h.1 _ (List.mem_of_getElem? (nu_some e))).2.2.2
theorem js1_ok {v acc : List wd} {how rule : Int} {p : wd} (hv : ok v) (hp : wk p) (h : (∀ q ∈ acc, wk q) ∧ so acc) : ((∀ q ∈ js1 v how rule acc p, wk q) ∧ so (js1 v how rule acc p)) ∧ (js1 v how rule acc p).length ≤ acc.length + 1 := by
  unfold js1
  split
  · next n e =>
    have hn := jnum_bd (fun x hx => by injection hx with hx; rw [← hx]; exact hp.2.2.2) (fun x hx => nu_bd hv hx) e
    exact ⟨⟨put_wk h.1 ⟨hp.1, hp.2.1, hp.2.2.1, hn.1, hn.2⟩, put_so h.2 _ _⟩, put_le _ _ _⟩
  · exact ⟨h, by omega⟩
theorem js2_ok {ws acc : List wd} {how : Int} {p : wd} (hp : wk p) (h : (∀ q ∈ acc, wk q) ∧ so acc) : ((∀ q ∈ js2 ws how acc p, wk q) ∧ so (js2 ws how acc p)) ∧ (js2 ws how acc p).length ≤ acc.length + if nu ws p.1 = none ∧ how = 0 then 1 else 0 := by
  unfold js2
  split
  · exact ⟨⟨put_wk h.1 hp, put_so h.2 _ _⟩, put_le _ _ _⟩
  · exact ⟨h, by omega⟩
theorem jA_ok {ws v : List wd} (how rule : Int) (hw : ok ws) (hv : ok v) : ∀ k, k ≤ ws.length → ((∀ q ∈ (ws.take k).foldl (js1 v how rule) [], wk q) ∧ so ((ws.take k).foldl (js1 v how rule) [])) ∧ ((ws.take k).foldl (js1 v how rule) []).length ≤ k := by
  intro k
  induction k with
  | zero => intro _; exact ⟨⟨fun q hq => by simp at hq, List.Pairwise.nil⟩, Nat.le_refl _⟩
  | succ k ih =>
    intro hk
    have hg : ws[k]? = some (ws[k]'(by omega)) := List.getElem?_eq_getElem (by omega)
    obtain ⟨h1, h2⟩ := ih (by omega)
    have h3 := js1_ok (how := how) (rule := rule) hv (ok_get hw hg) h1
    rw [tk_s hg, List.foldl_append, List.foldl_cons, List.foldl_nil]
    exact ⟨h3.1, by omega⟩
theorem jB_ok {ws v : List wd} (how rule : Int) (hw : ok ws) (hv : ok v) : ∀ k, k ≤ v.length → ((∀ q ∈ (v.take k).foldl (js2 ws how) (ws.foldl (js1 v how rule) []), wk q) ∧ so ((v.take k).foldl (js2 ws how) (ws.foldl (js1 v how rule) []))) ∧ ((v.take k).foldl (js2 ws how) (ws.foldl (js1 v how rule) [])).length ≤ ws.length + (if how = 0 then ((v.take k).filter (fun q => decide (nu ws q.1 = none))).length else 0) := by
  intro k
  induction k with
  | zero =>
    intro _
    have := jA_ok how rule hw hv ws.length (Nat.le_refl _)
    rw [List.take_length] at this
    exact ⟨this.1, by simpa using this.2⟩
  | succ k ih =>
    intro hk
    have hg : v[k]? = some (v[k]'(by omega)) := List.getElem?_eq_getElem (by omega)
    obtain ⟨h1, h2⟩ := ih (by omega)
    have h3 := js2_ok (ws := ws) (how := how) (ok_get hv hg) h1
    rw [tk_s hg, List.foldl_append, List.foldl_cons, List.foldl_nil, List.filter_append, List.length_append]
    refine ⟨h3.1, ?_⟩
    have h4 := h3.2
    by_cases c : how = 0
    · rw [if_pos c] at h2 ⊢
      by_cases c2 : nu ws (v[k]'(by omega)).1 = none
      · rw [if_pos ⟨c2, c⟩] at h4
        have : ([v[k]'(by omega)].filter (fun q => decide (nu ws q.1 = none))).length = 1 := by simp [c2]
        omega
      · rw [if_neg (fun h => c2 h.1)] at h4
        omega
    · rw [if_neg c] at h2 ⊢
      rw [if_neg (fun h => c h.2)] at h4
      omega
theorem jn_ok {ws v : List wd} {how rule : Int} (hw : ok ws) (hv : ok v) (ht : how = 0 → tog ws v ≤ 100) : ok (jn ws v how rule) := by
  have h := jB_ok how rule hw hv v.length (Nat.le_refl _)
  rw [List.take_length] at h
  refine ⟨h.1.1, h.1.2, ?_⟩
  have h2 := h.2
  have := hw.2.2
  unfold jn
  by_cases c : how = 0
  · rw [if_pos c] at h2
    have := ht c
    unfold tog at this
    omega
  · rw [if_neg c] at h2
    omega
noncomputable section
def sp_join (k how rule : Int) (s : Sta) : Int × Sta := if (0 ≤ k ∧ k ≤ 2) ∧ ((0 ≤ how ∧ how ≤ 2) ∧ ((0 ≤ rule ∧ rule ≤ 4) ∧ (how = 2 → rule = 3))) then (match s.2.2.2.2 k.toNat with
  | none => (-1, s)
  | some v => if how = 0 ∧ 100 < tog s.2.1 v then (-2, s) else (((jn s.2.1 v how rule).length : Int), act s.1 (jn s.2.1 v how rule) s.2.2.1 s)) else (-1, s)
end
theorem ok_join {s : Sta} (h : okT s) (k how rule : Int) : okT (sp_join k how rule s).2 := by
  unfold sp_join
  split
  · split
    · exact h
    · next v e =>
      split
      · exact h
      · next c => exact ok_act h h.1 (jn_ok h.2.1 (h.2.2.2.2 _ v e) (fun g => by have : ¬ 100 < tog s.2.1 v := fun g2 => c ⟨g, g2⟩; omega)) h.2.2.1
  · exact h
section MO
variable {m : Nat} {g : am_H} {S : Nat → Nat → Int} {t u : List Int} {ws bs ws' bs' v : List wd} {hs : List (List wd × List wd)} {sh : Nat → Option (List wd)}
theorem md_byRule {rule a b : Int} (hr : 0 ≤ rule ∧ rule ≤ 4) (ha : 0 ≤ a ∧ a ≤ 999999) (hb : 0 ≤ b ∧ b ≤ 999999) (h : am_H) (d : Nat) : am_cI d N_md_byRule [.inl (rule), .inl (a), .inl (b)] h = some (byR rule a b, h) := by
  apply am_cI_of
  unfold byR
  by_cases r0 : rule = 0
  · rw [if_pos r0]; subst r0
    unfold am_min
    by_cases c : 999999 < a + b
    · rw [if_pos c]
      (try dsimp only); rw [en_md_byRule]; (try simp (disch := omega) only [Option.bind_some, if_true, if_false, eq_self, not_true_eq_false, not_false_eq_true, am_w_id, if_pos, if_neg, fu_self, fu_ne, Int.toNat_natCast]); rw [B_md_byRule_0]; (try simp (disch := omega) only [Option.bind_some, if_true, if_false, eq_self, not_true_eq_false, not_false_eq_true, am_w_id, if_pos, if_neg, fu_self, fu_ne, Int.toNat_natCast]); simp (disch := omega) only [C_md_byRule_1_0]; (try simp (disch := omega) only [Option.bind_some, if_true, if_false, eq_self, not_true_eq_false, not_false_eq_true, am_w_id, if_pos, if_neg, fu_self, fu_ne, Int.toNat_natCast]); rw [B_md_byRule_32]; (try simp (disch := omega) only [Option.bind_some, if_true, if_false, eq_self, not_true_eq_false, not_false_eq_true, am_w_id, if_pos, if_neg, fu_self, fu_ne, Int.toNat_natCast]); rw [B_md_byRule_40]; (try simp (disch := omega) only [Option.bind_some, if_true, if_false, eq_self, not_true_eq_false, not_false_eq_true, am_w_id, if_pos, if_neg, fu_self, fu_ne, Int.toNat_natCast]); rw [B_md_byRule_48]; (try simp (disch := omega) only [Option.bind_some, if_true, if_false, eq_self, not_true_eq_false, not_false_eq_true, am_w_id, if_pos, if_neg, fu_self, fu_ne, Int.toNat_natCast])
    · rw [if_neg c]
      (try dsimp only); rw [en_md_byRule]; (try simp (disch := omega) only [Option.bind_some, if_true, if_false, eq_self, not_true_eq_false, not_false_eq_true, am_w_id, if_pos, if_neg, fu_self, fu_ne, Int.toNat_natCast]); rw [B_md_byRule_0]; (try simp (disch := omega) only [Option.bind_some, if_true, if_false, eq_self, not_true_eq_false, not_false_eq_true, am_w_id, if_pos, if_neg, fu_self, fu_ne, Int.toNat_natCast]); simp (disch := omega) only [C_md_byRule_1_0]; (try simp (disch := omega) only [Option.bind_some, if_true, if_false, eq_self, not_true_eq_false, not_false_eq_true, am_w_id, if_pos, if_neg, fu_self, fu_ne, Int.toNat_natCast]); rw [B_md_byRule_32]; (try simp (disch := omega) only [Option.bind_some, if_true, if_false, eq_self, not_true_eq_false, not_false_eq_true, am_w_id, if_pos, if_neg, fu_self, fu_ne, Int.toNat_natCast]); rw [B_md_byRule_45]; (try simp (disch := omega) only [Option.bind_some, if_true, if_false, eq_self, not_true_eq_false, not_false_eq_true, am_w_id, if_pos, if_neg, fu_self, fu_ne, Int.toNat_natCast]); rw [B_md_byRule_48]; (try simp (disch := omega) only [Option.bind_some, if_true, if_false, eq_self, not_true_eq_false, not_false_eq_true, am_w_id, if_pos, if_neg, fu_self, fu_ne, Int.toNat_natCast])
  rw [if_neg r0]
  by_cases r1 : rule = 1
  · rw [if_pos r1]; subst r1
    unfold am_min
    by_cases c : a < b
    · rw [if_neg (by omega)]
      (try dsimp only); rw [en_md_byRule]; (try simp (disch := omega) only [Option.bind_some, if_true, if_false, eq_self, not_true_eq_false, not_false_eq_true, am_w_id, if_pos, if_neg, fu_self, fu_ne, Int.toNat_natCast]); rw [B_md_byRule_0]; (try simp (disch := omega) only [Option.bind_some, if_true, if_false, eq_self, not_true_eq_false, not_false_eq_true, am_w_id, if_pos, if_neg, fu_self, fu_ne, Int.toNat_natCast]); simp (disch := omega) only [C_md_byRule_1_1]; (try simp (disch := omega) only [Option.bind_some, if_true, if_false, eq_self, not_true_eq_false, not_false_eq_true, am_w_id, if_pos, if_neg, fu_self, fu_ne, Int.toNat_natCast]); rw [B_md_byRule_49]; (try simp (disch := omega) only [Option.bind_some, if_true, if_false, eq_self, not_true_eq_false, not_false_eq_true, am_w_id, if_pos, if_neg, fu_self, fu_ne, Int.toNat_natCast]); rw [B_md_byRule_54]; (try simp (disch := omega) only [Option.bind_some, if_true, if_false, eq_self, not_true_eq_false, not_false_eq_true, am_w_id, if_pos, if_neg, fu_self, fu_ne, Int.toNat_natCast]); rw [B_md_byRule_59]; (try simp (disch := omega) only [Option.bind_some, if_true, if_false, eq_self, not_true_eq_false, not_false_eq_true, am_w_id, if_pos, if_neg, fu_self, fu_ne, Int.toNat_natCast])
    · by_cases c2 : b < a
      · rw [if_pos c2]
        (try dsimp only); rw [en_md_byRule]; (try simp (disch := omega) only [Option.bind_some, if_true, if_false, eq_self, not_true_eq_false, not_false_eq_true, am_w_id, if_pos, if_neg, fu_self, fu_ne, Int.toNat_natCast]); rw [B_md_byRule_0]; (try simp (disch := omega) only [Option.bind_some, if_true, if_false, eq_self, not_true_eq_false, not_false_eq_true, am_w_id, if_pos, if_neg, fu_self, fu_ne, Int.toNat_natCast]); simp (disch := omega) only [C_md_byRule_1_1]; (try simp (disch := omega) only [Option.bind_some, if_true, if_false, eq_self, not_true_eq_false, not_false_eq_true, am_w_id, if_pos, if_neg, fu_self, fu_ne, Int.toNat_natCast]); rw [B_md_byRule_49]; (try simp (disch := omega) only [Option.bind_some, if_true, if_false, eq_self, not_true_eq_false, not_false_eq_true, am_w_id, if_pos, if_neg, fu_self, fu_ne, Int.toNat_natCast]); rw [B_md_byRule_58]; (try simp (disch := omega) only [Option.bind_some, if_true, if_false, eq_self, not_true_eq_false, not_false_eq_true, am_w_id, if_pos, if_neg, fu_self, fu_ne, Int.toNat_natCast]); rw [B_md_byRule_59]; (try simp (disch := omega) only [Option.bind_some, if_true, if_false, eq_self, not_true_eq_false, not_false_eq_true, am_w_id, if_pos, if_neg, fu_self, fu_ne, Int.toNat_natCast])
      · rw [if_neg c2]
        have : a = b := by omega
        subst this
        (try dsimp only); rw [en_md_byRule]; (try simp (disch := omega) only [Option.bind_some, if_true, if_false, eq_self, not_true_eq_false, not_false_eq_true, am_w_id, if_pos, if_neg, fu_self, fu_ne, Int.toNat_natCast]); rw [B_md_byRule_0]; (try simp (disch := omega) only [Option.bind_some, if_true, if_false, eq_self, not_true_eq_false, not_false_eq_true, am_w_id, if_pos, if_neg, fu_self, fu_ne, Int.toNat_natCast]); simp (disch := omega) only [C_md_byRule_1_1]; (try simp (disch := omega) only [Option.bind_some, if_true, if_false, eq_self, not_true_eq_false, not_false_eq_true, am_w_id, if_pos, if_neg, fu_self, fu_ne, Int.toNat_natCast]); rw [B_md_byRule_49]; (try simp (disch := omega) only [Option.bind_some, if_true, if_false, eq_self, not_true_eq_false, not_false_eq_true, am_w_id, if_pos, if_neg, fu_self, fu_ne, Int.toNat_natCast]); rw [B_md_byRule_58]; (try simp (disch := omega) only [Option.bind_some, if_true, if_false, eq_self, not_true_eq_false, not_false_eq_true, am_w_id, if_pos, if_neg, fu_self, fu_ne, Int.toNat_natCast]); rw [B_md_byRule_59]; (try simp (disch := omega) only [Option.bind_some, if_true, if_false, eq_self, not_true_eq_false, not_false_eq_true, am_w_id, if_pos, if_neg, fu_self, fu_ne, Int.toNat_natCast])
  rw [if_neg r1]
  by_cases r2 : rule = 2
  · rw [if_pos r2]; subst r2
    unfold am_max
    by_cases c : a < b
    · rw [if_pos c]
      (try dsimp only); rw [en_md_byRule]; (try simp (disch := omega) only [Option.bind_some, if_true, if_false, eq_self, not_true_eq_false, not_false_eq_true, am_w_id, if_pos, if_neg, fu_self, fu_ne, Int.toNat_natCast]); rw [B_md_byRule_0]; (try simp (disch := omega) only [Option.bind_some, if_true, if_false, eq_self, not_true_eq_false, not_false_eq_true, am_w_id, if_pos, if_neg, fu_self, fu_ne, Int.toNat_natCast]); simp (disch := omega) only [C_md_byRule_1_2]; (try simp (disch := omega) only [Option.bind_some, if_true, if_false, eq_self, not_true_eq_false, not_false_eq_true, am_w_id, if_pos, if_neg, fu_self, fu_ne, Int.toNat_natCast]); rw [B_md_byRule_60]; (try simp (disch := omega) only [Option.bind_some, if_true, if_false, eq_self, not_true_eq_false, not_false_eq_true, am_w_id, if_pos, if_neg, fu_self, fu_ne, Int.toNat_natCast]); rw [B_md_byRule_69]; (try simp (disch := omega) only [Option.bind_some, if_true, if_false, eq_self, not_true_eq_false, not_false_eq_true, am_w_id, if_pos, if_neg, fu_self, fu_ne, Int.toNat_natCast]); rw [B_md_byRule_70]; (try simp (disch := omega) only [Option.bind_some, if_true, if_false, eq_self, not_true_eq_false, not_false_eq_true, am_w_id, if_pos, if_neg, fu_self, fu_ne, Int.toNat_natCast])
    · rw [if_neg c]
      by_cases c2 : b < a
      · (try dsimp only); rw [en_md_byRule]; (try simp (disch := omega) only [Option.bind_some, if_true, if_false, eq_self, not_true_eq_false, not_false_eq_true, am_w_id, if_pos, if_neg, fu_self, fu_ne, Int.toNat_natCast]); rw [B_md_byRule_0]; (try simp (disch := omega) only [Option.bind_some, if_true, if_false, eq_self, not_true_eq_false, not_false_eq_true, am_w_id, if_pos, if_neg, fu_self, fu_ne, Int.toNat_natCast]); simp (disch := omega) only [C_md_byRule_1_2]; (try simp (disch := omega) only [Option.bind_some, if_true, if_false, eq_self, not_true_eq_false, not_false_eq_true, am_w_id, if_pos, if_neg, fu_self, fu_ne, Int.toNat_natCast]); rw [B_md_byRule_60]; (try simp (disch := omega) only [Option.bind_some, if_true, if_false, eq_self, not_true_eq_false, not_false_eq_true, am_w_id, if_pos, if_neg, fu_self, fu_ne, Int.toNat_natCast]); rw [B_md_byRule_65]; (try simp (disch := omega) only [Option.bind_some, if_true, if_false, eq_self, not_true_eq_false, not_false_eq_true, am_w_id, if_pos, if_neg, fu_self, fu_ne, Int.toNat_natCast]); rw [B_md_byRule_70]; (try simp (disch := omega) only [Option.bind_some, if_true, if_false, eq_self, not_true_eq_false, not_false_eq_true, am_w_id, if_pos, if_neg, fu_self, fu_ne, Int.toNat_natCast])
      · have : a = b := by omega
        subst this
        (try dsimp only); rw [en_md_byRule]; (try simp (disch := omega) only [Option.bind_some, if_true, if_false, eq_self, not_true_eq_false, not_false_eq_true, am_w_id, if_pos, if_neg, fu_self, fu_ne, Int.toNat_natCast]); rw [B_md_byRule_0]; (try simp (disch := omega) only [Option.bind_some, if_true, if_false, eq_self, not_true_eq_false, not_false_eq_true, am_w_id, if_pos, if_neg, fu_self, fu_ne, Int.toNat_natCast]); simp (disch := omega) only [C_md_byRule_1_2]; (try simp (disch := omega) only [Option.bind_some, if_true, if_false, eq_self, not_true_eq_false, not_false_eq_true, am_w_id, if_pos, if_neg, fu_self, fu_ne, Int.toNat_natCast]); rw [B_md_byRule_60]; (try simp (disch := omega) only [Option.bind_some, if_true, if_false, eq_self, not_true_eq_false, not_false_eq_true, am_w_id, if_pos, if_neg, fu_self, fu_ne, Int.toNat_natCast]); rw [B_md_byRule_69]; (try simp (disch := omega) only [Option.bind_some, if_true, if_false, eq_self, not_true_eq_false, not_false_eq_true, am_w_id, if_pos, if_neg, fu_self, fu_ne, Int.toNat_natCast]); rw [B_md_byRule_70]; (try simp (disch := omega) only [Option.bind_some, if_true, if_false, eq_self, not_true_eq_false, not_false_eq_true, am_w_id, if_pos, if_neg, fu_self, fu_ne, Int.toNat_natCast])
  rw [if_neg r2]
  by_cases r3 : rule = 3
  · rw [if_pos r3]; subst r3
    (try dsimp only); rw [en_md_byRule]; (try simp (disch := omega) only [Option.bind_some, if_true, if_false, eq_self, not_true_eq_false, not_false_eq_true, am_w_id, if_pos, if_neg, fu_self, fu_ne, Int.toNat_natCast]); rw [B_md_byRule_0]; (try simp (disch := omega) only [Option.bind_some, if_true, if_false, eq_self, not_true_eq_false, not_false_eq_true, am_w_id, if_pos, if_neg, fu_self, fu_ne, Int.toNat_natCast]); simp (disch := omega) only [C_md_byRule_1_3]; (try simp (disch := omega) only [Option.bind_some, if_true, if_false, eq_self, not_true_eq_false, not_false_eq_true, am_w_id, if_pos, if_neg, fu_self, fu_ne, Int.toNat_natCast]); rw [B_md_byRule_71]; (try simp (disch := omega) only [Option.bind_some, if_true, if_false, eq_self, not_true_eq_false, not_false_eq_true, am_w_id, if_pos, if_neg, fu_self, fu_ne, Int.toNat_natCast])
  rw [if_neg r3]
  have : rule = 4 := by omega
  subst this
  (try dsimp only); rw [en_md_byRule]; (try simp (disch := omega) only [Option.bind_some, if_true, if_false, eq_self, not_true_eq_false, not_false_eq_true, am_w_id, if_pos, if_neg, fu_self, fu_ne, Int.toNat_natCast]); rw [B_md_byRule_0]; (try simp (disch := omega) only [Option.bind_some, if_true, if_false, eq_self, not_true_eq_false, not_false_eq_true, am_w_id, if_pos, if_neg, fu_self, fu_ne, Int.toNat_natCast]); simp (disch := omega) only [C_md_byRule_1_d]; (try simp (disch := omega) only [Option.bind_some, if_true, if_false, eq_self, not_true_eq_false, not_false_eq_true, am_w_id, if_pos, if_neg, fu_self, fu_ne, Int.toNat_natCast]); rw [B_md_byRule_73]; (try simp (disch := omega) only [Option.bind_some, if_true, if_false, eq_self, not_true_eq_false, not_false_eq_true, am_w_id, if_pos, if_neg, fu_self, fu_ne, Int.toNat_natCast])
theorem md_together (H : MR S t ws bs hs sh) (O : okS t ws bs hs sh) {n : Nat} (hn : n ≤ 2) (hv : sh n = some v) (d : Nat) : ∃ S', am_cI (d + 3) N_md_together [.inr (.inr (some (m))), .inl (((1201 * n : Nat) : Int))] (MH m g S) = some ((tog ws v : Int), MH m g S') ∧ fd [7, 8] S S' := by
  have hl := O.2.1.2.2
  have hvo := O.2.2.2.2 n v hv
  have hvl := hvo.2.2
  have h1 := H.2.1.1
  have hm := (H.2.2.2.2 n (by omega)).2 v hv
  have hcnt : ∀ k, ((v.take k).filter (fun q => decide (nu ws q.1 = none))).length ≤ k := fun k => Nat.le_trans (List.length_filter_le _ _) (by rw [List.length_take]; omega)
  have e5 : ((1201 * n : Nat) : Int).toNat = 1201 * n := by omega
  have start : am_call (d + 3) N_md_together [.inr (.inr (some (m))), .inl (((1201 * n : Nat) : Int))] (MH m g S) = EV (d + 3) N_md_together T_md_together_9 [.inr (.inr (some (m))), .inl (((1201 * n : Nat) : Int)), .inl (((ws.length + ((v.take 0).filter (fun q => decide (nu ws q.1 = none))).length : Nat) : Int)), .inl (((0 : Nat) : Int))] [] (MH m g S) := by
    (try dsimp only); rw [en_md_together]; (try simp (disch := omega) only [Option.bind_some, if_true, if_false, eq_self, not_true_eq_false, not_false_eq_true, am_w_id, if_pos, if_neg, fu_self, fu_ne, Int.toNat_natCast, h1, Int.reduceToNat]); rw [B_md_together_0]; (try simp (disch := omega) only [Option.bind_some, if_true, if_false, eq_self, not_true_eq_false, not_false_eq_true, am_w_id, if_pos, if_neg, fu_self, fu_ne, Int.toNat_natCast, m_gR_2, m_l_2, m_s_2, h1, Int.reduceToNat])
    rfl
  have main := am_loop (S := Nat × (Nat → Nat → Int)) (F := fun s => EV (d + 3) N_md_together T_md_together_9 [.inr (.inr (some (m))), .inl (((1201 * n : Nat) : Int)), .inl (((ws.length + ((v.take s.1).filter (fun q => decide (nu ws q.1 = none))).length : Nat) : Int)), .inl ((s.1 : Int))] [] (MH m g s.2)) (I := fun s => s.1 ≤ v.length ∧ fd [7, 8] S s.2) (R := fun o => ∃ S', o = some (some (.inl (tog ws v : Int)), MH m g S') ∧ fd [7, 8] S S') (fun s => v.length - s.1) ?_ (0, S) ⟨Nat.zero_le _, fd.rf⟩
  · obtain ⟨S', e, F⟩ := main
    exact ⟨S', am_cI_of (start.trans e), F⟩
  · rintro ⟨k, U⟩ ⟨p1, p2⟩
    dsimp only at p1 p2 ⊢
    have HU := H.frd p2 (by decide)
    have hmU := (HU.2.2.2.2 n (by omega)).2 v hv
    have um := hmU.1
    by_cases c : k = v.length
    · left
      subst c
      refine ⟨U, ?_, p2⟩
      rw [List.take_length]
      (try dsimp only); rw [B_md_together_9]; (try simp (disch := omega) only [Option.bind_some, if_true, if_false, eq_self, not_true_eq_false, not_false_eq_true, am_w_id, if_pos, if_neg, fu_self, fu_ne, Int.toNat_natCast, m_gR_5, m_l_5, m_s_5, e5, um]); rw [B_md_together_64]; (try simp (disch := omega) only [Option.bind_some, if_true, if_false, eq_self, not_true_eq_false, not_false_eq_true, am_w_id, if_pos, if_neg, fu_self, fu_ne, Int.toNat_natCast, e5, um])
      rfl
    · right
      have hg : v[k]? = some (v[k]'(by omega)) := List.getElem?_eq_getElem (by omega)
      generalize v[k]'(by omega) = q at hg
      have wq := ok_get hvo hg
      obtain ⟨V, e7, T7, F7⟩ := md_tells (m := m) (g := g) (m_row_5 (m := m)) (by decide) hmU hg wq.2.2.1 (by decide) (by decide) (d + 1)
      have HV := HU.frd F7 (by decide)
      have b1 := fun d => md_placeOf0 (m := m) (g := g) HV O T7 wq.1 d
      have b2 := fun d => md_isThere0 (m := m) (g := g) HV O T7 wq.1 d
      have hc := hcnt k
      have e9 : (k : Int) + 1 = ((k + 1 : Nat) : Int) := by omega
      refine ⟨(k + 1, V), ⟨by dsimp only; omega, p2.tr F7⟩, by dsimp only; omega, ?_⟩
      dsimp only
      rw [tk_s hg, List.filter_append, List.length_append, List.filter_cons, List.filter_nil]
      generalize ((v.take k).filter (fun q => decide (nu ws q.1 = none))).length = z at *
      by_cases cn : nu ws q.1 = none
      · simp only [if_pos cn] at b2
        have cd : decide (nu ws q.1 = none) = true := decide_eq_true cn
        rw [if_pos cd]
        have e8 : ((ws.length + z : Nat) : Int) + 1 = ((ws.length + (z + [q].length) : Nat) : Int) := by simp; omega
        (try dsimp only); rw [B_md_together_9]; (try simp (disch := omega) only [Option.bind_some, if_true, if_false, eq_self, not_true_eq_false, not_false_eq_true, am_w_id, if_pos, if_neg, fu_self, fu_ne, Int.toNat_natCast, m_gR_5, m_l_5, m_s_5, e5, um, e7, b1, b2, e9, e8]); rw [B_md_together_19]; (try simp (disch := omega) only [Option.bind_some, if_true, if_false, eq_self, not_true_eq_false, not_false_eq_true, am_w_id, if_pos, if_neg, fu_self, fu_ne, Int.toNat_natCast, m_gR_5, m_l_5, m_s_5, m_gR_2, m_l_2, m_s_2, m_O, e5, um, e7, b1, b2, e9, e8]); rw [B_md_together_55]; (try simp (disch := omega) only [Option.bind_some, if_true, if_false, eq_self, not_true_eq_false, not_false_eq_true, am_w_id, if_pos, if_neg, fu_self, fu_ne, Int.toNat_natCast, e5, um, e7, b1, b2, e9, e8]); rw [B_md_together_56]; (try simp (disch := omega) only [Option.bind_some, if_true, if_false, eq_self, not_true_eq_false, not_false_eq_true, am_w_id, if_pos, if_neg, fu_self, fu_ne, Int.toNat_natCast, e5, um, e7, b1, b2, e9, e8])
      · simp only [if_neg cn] at b2
        have cd : ¬ decide (nu ws q.1 = none) = true := fun h => cn (of_decide_eq_true h)
        rw [if_neg cd]
        have e8 : ((ws.length + z : Nat) : Int) + 0 = ((ws.length + (z + ([] : List wd).length) : Nat) : Int) := by simp
        (try dsimp only); rw [B_md_together_9]; (try simp (disch := omega) only [Option.bind_some, if_true, if_false, eq_self, not_true_eq_false, not_false_eq_true, am_w_id, if_pos, if_neg, fu_self, fu_ne, Int.toNat_natCast, m_gR_5, m_l_5, m_s_5, e5, um, e7, b1, b2, e9, e8, show ¬ (1 : Int) = 0 by decide]); rw [B_md_together_19]; (try simp (disch := omega) only [Option.bind_some, if_true, if_false, eq_self, not_true_eq_false, not_false_eq_true, am_w_id, if_pos, if_neg, fu_self, fu_ne, Int.toNat_natCast, m_gR_5, m_l_5, m_s_5, m_gR_2, m_l_2, m_s_2, m_O, e5, um, e7, b1, b2, e9, e8, show ¬ (1 : Int) = 0 by decide]); rw [B_md_together_51]; (try simp (disch := omega) only [Option.bind_some, if_true, if_false, eq_self, not_true_eq_false, not_false_eq_true, am_w_id, if_pos, if_neg, fu_self, fu_ne, Int.toNat_natCast, e5, um, e7, b1, b2, e9, e8, show ¬ (1 : Int) = 0 by decide]); rw [B_md_together_56]; (try simp (disch := omega) only [Option.bind_some, if_true, if_false, eq_self, not_true_eq_false, not_false_eq_true, am_w_id, if_pos, if_neg, fu_self, fu_ne, Int.toNat_natCast, e5, um, e7, b1, b2, e9, e8, show ¬ (1 : Int) = 0 by decide])
theorem md_joins (H : MR S t ws bs hs sh) (O : okS t ws bs hs sh) {n : Nat} (hn : n ≤ 2) (hv : sh n = some v) {how rule : Int} (hh : 0 ≤ how ∧ how ≤ 2) (hr : 0 ≤ rule ∧ rule ≤ 4) (d : Nat) : ∃ S', am_cV (d + 4) N_md_joins [.inr (.inr (some (m))), .inl (((1201 * n : Nat) : Int)), .inl (how), .inl (rule)] (MH m g S) = some (MH m g S') ∧ ml 2402 (S' 12) 0 (jn ws v how rule) ∧ fd [7, 8, 12] S S' := by
  have hl := O.2.1.2.2
  have hvo := O.2.2.2.2 n v hv
  have hvl := hvo.2.2
  have e5 : ((1201 * n : Nat) : Int).toNat = 1201 * n := by omega
  have start : am_call (d + 4) N_md_joins [.inr (.inr (some (m))), .inl (((1201 * n : Nat) : Int)), .inl (how), .inl (rule)] (MH m g S) = EV (d + 4) N_md_joins T_md_joins_10 [.inr (.inr (some (m))), .inl (((1201 * n : Nat) : Int)), .inl (how), .inl (rule), .inl (((0 : Nat) : Int)), am_nul, am_nul, am_nul] [] (MH m g (am_fu S 12 (am_fu (S 12) 0 0))) := by
    (try dsimp only); rw [en_md_joins]; (try simp (disch := omega) only [Option.bind_some, if_true, if_false, eq_self, not_true_eq_false, not_false_eq_true, am_w_id, if_pos, if_neg, fu_self, fu_ne, Int.toNat_natCast, Int.toNat_zero]); rw [B_md_joins_0]; (try simp (disch := omega) only [Option.bind_some, if_true, if_false, eq_self, not_true_eq_false, not_false_eq_true, am_w_id, if_pos, if_neg, fu_self, fu_ne, Int.toNat_natCast, m_gR_12, m_l_12, m_s_12, Int.toNat_zero])
    rfl
  -- the words here
  have one := am_loop (S := Nat × ((Nat → Nat → Int) × (am_V × (am_V × am_V)))) (F := fun s => EV (d + 4) N_md_joins T_md_joins_10 [.inr (.inr (some (m))), .inl (((1201 * n : Nat) : Int)), .inl (how), .inl (rule), .inl ((s.1 : Int)), s.2.2.1, s.2.2.2.1, s.2.2.2.2] [] (MH m g s.2.1))
    (I := fun s => s.1 ≤ ws.length ∧ fd [7, 8, 12] S s.2.1 ∧ ml 2402 (s.2.1 12) 0 ((ws.take s.1).foldl (js1 v how rule) []))
    (R := fun o => ∃ U x4 j5 j6 j7, o = EV (d + 4) N_md_joins T_md_joins_133 [.inr (.inr (some (m))), .inl (((1201 * n : Nat) : Int)), .inl (how), .inl (rule), .inl (x4), j5, j6, j7] [] (MH m g U) ∧ fd [7, 8, 12] S U ∧ ml 2402 (U 12) 0 (ws.foldl (js1 v how rule) [])) (fun s => ws.length - s.1) ?_ (0, am_fu S 12 (am_fu (S 12) 0 0), am_nul, am_nul, am_nul) ⟨Nat.zero_le _, fd.rf.up (by decide) _, ⟨by dsimp only; rw [fu_self, fu_self]; rfl, by simp, fun w p hp => by simp at hp⟩⟩
  · obtain ⟨U, x4, j5, j6, j7, e1, F1, m1⟩ := one
    -- the words there
    have two := am_loop (S := Nat × (Nat → Nat → Int)) (F := fun s => EV (d + 4) N_md_joins T_md_joins_136 [.inr (.inr (some (m))), .inl (((1201 * n : Nat) : Int)), .inl (how), .inl (rule), .inl ((s.1 : Int)), j5, j6, j7] [] (MH m g s.2))
      (I := fun s => s.1 ≤ v.length ∧ fd [7, 8, 12] S s.2 ∧ ml 2402 (s.2 12) 0 ((v.take s.1).foldl (js2 ws how) (ws.foldl (js1 v how rule) [])))
      (R := fun o => ∃ S', o = some (none, MH m g S') ∧ ml 2402 (S' 12) 0 (jn ws v how rule) ∧ fd [7, 8, 12] S S') (fun s => v.length - s.1) ?_ (0, U) ⟨Nat.zero_le _, F1, m1⟩
    · obtain ⟨S', e2, h⟩ := two
      refine ⟨S', am_cV_of (start.trans (e1.trans (Eq.trans ?_ e2))), h⟩
      rw [B_md_joins_133]
      rfl
    · rintro ⟨k, V⟩ ⟨p1, p2, p3⟩
      dsimp only at p1 p2 p3 ⊢
      have HV := H.frd p2 (by decide)
      have hmV := (HV.2.2.2.2 n (by omega)).2 v hv
      have vm := hmV.1
      by_cases c : k = v.length
      · left
        subst c
        rw [List.take_length] at p3
        refine ⟨V, ?_, p3, p2⟩
        (try dsimp only); rw [B_md_joins_136]; (try simp (disch := omega) only [Option.bind_some, if_true, if_false, eq_self, not_true_eq_false, not_false_eq_true, am_w_id, if_pos, if_neg, fu_self, fu_ne, Int.toNat_natCast, m_gR_5, m_l_5, m_s_5, e5, vm]); rw [B_md_joins_208]; (try simp (disch := omega) only [Option.bind_some, if_true, if_false, eq_self, not_true_eq_false, not_false_eq_true, am_w_id, if_pos, if_neg, fu_self, fu_ne, Int.toNat_natCast, e5, vm])
      · by_cases ch : how = 0
        · right
          have hg : v[k]? = some (v[k]'(by omega)) := List.getElem?_eq_getElem (by omega)
          have jok := jB_ok how rule O.2.1 hvo k p1
          have jle : ((v.take k).filter (fun q => decide (nu ws q.1 = none))).length ≤ k := Nat.le_trans (List.length_filter_le _ _) (by rw [List.length_take]; omega)
          rw [if_pos ch] at jok
          generalize v[k]'(by omega) = q at hg
          have wq := ok_get hvo hg
          have e9 : (k : Int) + 1 = ((k + 1 : Nat) : Int) := by omega
          obtain ⟨W, e7, T7, F7⟩ := md_tells (m := m) (g := g) (m_row_5 (m := m)) (by decide) hmV hg wq.2.2.1 (by decide) (by decide) (d + 2)
          have HW := HV.frd F7 (by decide)
          have hmW := (HW.2.2.2.2 n (by omega)).2 v hv
          have b1 := fun d => md_placeOf0 (m := m) (g := g) HW O T7 wq.1 d
          have b2 := fun d => md_isThere0 (m := m) (g := g) HW O T7 wq.1 d
          have b3 := fun d => md_numberOf (g := g) (m_row_5 (m := m)) (by decide) hmW hg d
          have mW : ml 2402 (W 12) 0 ((v.take k).foldl (js2 ws how) (ws.foldl (js1 v how rule) [])) := by rw [F7 12 (by decide)]; exact p3
          have hstep : (v.take (k + 1)).foldl (js2 ws how) (ws.foldl (js1 v how rule) []) = js2 ws how ((v.take k).foldl (js2 ws how) (ws.foldl (js1 v how rule) [])) q := by
            rw [tk_s hg, List.foldl_append, List.foldl_cons, List.foldl_nil]
          generalize (v.take k).foldl (js2 ws how) (ws.foldl (js1 v how rule) []) = acc at *
          by_cases cn : nu ws q.1 = none
          · simp only [if_pos cn] at b2
            obtain ⟨f, e8, h3, h4⟩ := md_puts (m := m) (g := g) (o := 0) (m_row_12 (m := m)) (by decide) mW jok.1.1 T7 wq.1 wq.2.2.1 (by decide) (by decide) (by omega) d q.2
            have e8' : am_cV (d + 3) N_md_puts [.inr (.inr (some (m))), .inr (.inr (some (m + 8))), .inl (0), .inl (q.2)] (MH m g W) = some (MH m g (am_fu W 12 f)) := e8
            refine ⟨(k + 1, am_fu W 12 f), ⟨by dsimp only; omega, (p2.tr (F7.wide (by decide))).up (by decide) _, ?_⟩, by dsimp only; omega, ?_⟩
            · dsimp only
              rw [fu_self, hstep]
              unfold js2
              rw [if_pos ⟨cn, ch⟩]
              exact h3
            · (try dsimp only); rw [B_md_joins_136]; (try simp (disch := omega) only [Option.bind_some, if_true, if_false, eq_self, not_true_eq_false, not_false_eq_true, am_w_id, if_pos, if_neg, fu_self, fu_ne, Int.toNat_natCast, m_gR_5, m_l_5, m_s_5, e5, vm, ch, e7, b1, b2, b3, e8', e9]); rw [B_md_joins_147]; (try simp (disch := omega) only [Option.bind_some, if_true, if_false, eq_self, not_true_eq_false, not_false_eq_true, am_w_id, if_pos, if_neg, fu_self, fu_ne, Int.toNat_natCast, e5, vm, ch, e7, b1, b2, b3, e8', e9]); rw [B_md_joins_151]; (try simp (disch := omega) only [Option.bind_some, if_true, if_false, eq_self, not_true_eq_false, not_false_eq_true, am_w_id, if_pos, if_neg, fu_self, fu_ne, Int.toNat_natCast, m_gR_5, m_l_5, m_s_5, m_gR_2, m_l_2, m_s_2, m_O, e5, vm, ch, e7, b1, b2, b3, e8', e9]); rw [B_md_joins_183]; (try simp (disch := omega) only [Option.bind_some, if_true, if_false, eq_self, not_true_eq_false, not_false_eq_true, am_w_id, if_pos, if_neg, fu_self, fu_ne, Int.toNat_natCast, m_gR_12, m_l_12, m_s_12, m_gR_5, m_l_5, m_s_5, m_O, e5, vm, ch, e7, b1, b2, b3, e8', e9]); rw [B_md_joins_202]; (try simp (disch := omega) only [Option.bind_some, if_true, if_false, eq_self, not_true_eq_false, not_false_eq_true, am_w_id, if_pos, if_neg, fu_self, fu_ne, Int.toNat_natCast, e5, vm, ch, e7, b1, b2, b3, e8', e9])
          · simp only [if_neg cn] at b2
            refine ⟨(k + 1, W), ⟨by dsimp only; omega, p2.tr (F7.wide (by decide)), ?_⟩, by dsimp only; omega, ?_⟩
            · dsimp only
              rw [hstep]
              unfold js2
              rw [if_neg (fun h => cn h.1)]
              exact mW
            · (try dsimp only); rw [B_md_joins_136]; (try simp (disch := omega) only [Option.bind_some, if_true, if_false, eq_self, not_true_eq_false, not_false_eq_true, am_w_id, if_pos, if_neg, fu_self, fu_ne, Int.toNat_natCast, m_gR_5, m_l_5, m_s_5, e5, vm, ch, e7, b1, b2, e9, show ¬ (1 : Int) = 0 by decide]); rw [B_md_joins_147]; (try simp (disch := omega) only [Option.bind_some, if_true, if_false, eq_self, not_true_eq_false, not_false_eq_true, am_w_id, if_pos, if_neg, fu_self, fu_ne, Int.toNat_natCast, e5, vm, ch, e7, b1, b2, e9, show ¬ (1 : Int) = 0 by decide]); rw [B_md_joins_151]; (try simp (disch := omega) only [Option.bind_some, if_true, if_false, eq_self, not_true_eq_false, not_false_eq_true, am_w_id, if_pos, if_neg, fu_self, fu_ne, Int.toNat_natCast, m_gR_5, m_l_5, m_s_5, m_gR_2, m_l_2, m_s_2, m_O, e5, vm, ch, e7, b1, b2, e9, show ¬ (1 : Int) = 0 by decide]); rw [B_md_joins_202]; (try simp (disch := omega) only [Option.bind_some, if_true, if_false, eq_self, not_true_eq_false, not_false_eq_true, am_w_id, if_pos, if_neg, fu_self, fu_ne, Int.toNat_natCast, e5, vm, ch, e7, b1, b2, e9, show ¬ (1 : Int) = 0 by decide])
        · left
          have hall : ∀ (l acc : List wd), l.foldl (js2 ws how) acc = acc := by
            intro l
            induction l with
            | nil => intro acc; rfl
            | cons a l ih =>
              intro acc
              rw [List.foldl_cons]
              have : js2 ws how acc a = acc := by unfold js2; rw [if_neg (fun h => ch h.2)]
              rw [this]
              exact ih acc
          rw [hall] at p3
          refine ⟨V, ?_, by unfold jn; rw [hall]; exact p3, p2⟩
          (try dsimp only); rw [B_md_joins_136]; (try simp (disch := omega) only [Option.bind_some, if_true, if_false, eq_self, not_true_eq_false, not_false_eq_true, am_w_id, if_pos, if_neg, fu_self, fu_ne, Int.toNat_natCast, m_gR_5, m_l_5, m_s_5, e5, vm, ch]); rw [B_md_joins_147]; (try simp (disch := omega) only [Option.bind_some, if_true, if_false, eq_self, not_true_eq_false, not_false_eq_true, am_w_id, if_pos, if_neg, fu_self, fu_ne, Int.toNat_natCast, e5, vm, ch]); rw [B_md_joins_208]; (try simp (disch := omega) only [Option.bind_some, if_true, if_false, eq_self, not_true_eq_false, not_false_eq_true, am_w_id, if_pos, if_neg, fu_self, fu_ne, Int.toNat_natCast, e5, vm, ch])
  · rintro ⟨w, U, j5, j6, j7⟩ ⟨p1, p2, p3⟩
    dsimp only at p1 p2 p3 ⊢
    have HU := H.frd p2 (by decide)
    have u1 := HU.2.1.1
    by_cases c : w = ws.length
    · left
      subst c
      rw [List.take_length] at p3
      refine ⟨U, (ws.length : Int), j5, j6, j7, ?_, p2, p3⟩
      (try dsimp only); rw [B_md_joins_10]; (try simp (disch := omega) only [Option.bind_some, if_true, if_false, eq_self, not_true_eq_false, not_false_eq_true, am_w_id, if_pos, if_neg, fu_self, fu_ne, Int.toNat_natCast, m_gR_2, m_l_2, m_s_2, u1, Int.reduceToNat])
    · right
      have hg : ws[w]? = some (ws[w]'(by omega)) := List.getElem?_eq_getElem (by omega)
      have jok := jA_ok how rule O.2.1 hvo w p1
      generalize ws[w]'(by omega) = p at hg
      have wp := ok_get O.2.1 hg
      have e9 : (w : Int) + 1 = ((w + 1 : Nat) : Int) := by omega
      obtain ⟨W, e7, T7, F7⟩ := md_tells (m := m) (g := g) (o := 0) (m_row_2 (m := m)) (by decide) HU.2.1 hg wp.2.2.1 (by decide) (by decide) (d + 2)
      have e7' : am_cV (d + 3) N_md_tells [.inr (.inr (some (m))), .inr (.inr (some (m + 2))), .inl (0), .inl ((w : Int))] (MH m g U) = some (MH m g W) := e7
      have HW := HU.frd F7 (by decide)
      have hmW := (HW.2.2.2.2 n (by omega)).2 v hv
      have b1 := fun d => md_placeOf (g := g) (m_row_5 (m := m)) (by decide) hmW hvo.1 T7 wp.1 d
      have b2 := fun d => md_isThere (g := g) (m_row_5 (m := m)) (by decide) hmW hvo.1 T7 wp.1 d
      have b3 := fun d => md_numberOf0 (m := m) (g := g) HW hg d
      have mW : ml 2402 (W 12) 0 ((ws.take w).foldl (js1 v how rule) []) := by rw [F7 12 (by decide)]; exact p3
      have hstep : (ws.take (w + 1)).foldl (js1 v how rule) [] = js1 v how rule ((ws.take w).foldl (js1 v how rule) []) p := by
        rw [tk_s hg, List.foldl_append, List.foldl_cons, List.foldl_nil]
      generalize (ws.take w).foldl (js1 v how rule) [] = acc at *
      have puts9 : ∀ x, ∃ f, am_cV (d + 3) N_md_puts [.inr (.inr (some (m))), .inr (.inr (some (m + 8))), .inl (0), .inl (x)] (MH m g W) = some (MH m g (am_fu W 12 f)) ∧ ml 2402 f 0 (put acc p.1 x) := fun x => by
        obtain ⟨f, e8, h3, h4⟩ := md_puts (m := m) (g := g) (o := 0) (m_row_12 (m := m)) (by decide) mW jok.1.1 T7 wp.1 wp.2.2.1 (by decide) (by decide) (by omega) d x
        exact ⟨f, e8, h3⟩
      cases cn : nu v p.1 with
      | none =>
        simp only [cn, if_true] at b2
        by_cases ch : how = 1
        · refine ⟨(w + 1, W, .inl (ah v p.1 : Int), .inl 0, .inl p.2), ⟨by dsimp only; omega, p2.tr (F7.wide (by decide)), ?_⟩, by dsimp only; omega, ?_⟩
          · dsimp only
            rw [hstep]
            unfold js1 jnum
            rw [cn]
            dsimp only
            rw [if_pos ch]
            exact mW
          · (try dsimp only); rw [B_md_joins_10]; (try simp (disch := omega) only [Option.bind_some, if_true, if_false, eq_self, not_true_eq_false, not_false_eq_true, am_w_id, if_pos, if_neg, fu_self, fu_ne, Int.toNat_natCast, m_gR_2, m_l_2, m_s_2, u1, e7', b1, b2, b3, ch, e9, Int.reduceToNat]); rw [B_md_joins_21]; (try simp (disch := omega) only [Option.bind_some, if_true, if_false, eq_self, not_true_eq_false, not_false_eq_true, am_w_id, if_pos, if_neg, fu_self, fu_ne, Int.toNat_natCast, m_gR_2, m_l_2, m_s_2, m_gR_5, m_l_5, m_s_5, m_O, u1, e7', b1, b2, b3, ch, e9, Int.reduceToNat]); rw [B_md_joins_106]; (try simp (disch := omega) only [Option.bind_some, if_true, if_false, eq_self, not_true_eq_false, not_false_eq_true, am_w_id, if_pos, if_neg, fu_self, fu_ne, Int.toNat_natCast, u1, e7', b1, b2, b3, ch, e9, Int.reduceToNat]); rw [B_md_joins_111]; (try simp (disch := omega) only [Option.bind_some, if_true, if_false, eq_self, not_true_eq_false, not_false_eq_true, am_w_id, if_pos, if_neg, fu_self, fu_ne, Int.toNat_natCast, u1, e7', b1, b2, b3, ch, e9, Int.reduceToNat]); rw [B_md_joins_127]; (try simp (disch := omega) only [Option.bind_some, if_true, if_false, eq_self, not_true_eq_false, not_false_eq_true, am_w_id, if_pos, if_neg, fu_self, fu_ne, Int.toNat_natCast, u1, e7', b1, b2, b3, ch, e9, Int.reduceToNat])
        · obtain ⟨f, e8, h3⟩ := puts9 p.2
          refine ⟨(w + 1, am_fu W 12 f, .inl (ah v p.1 : Int), .inl 0, .inl p.2), ⟨by dsimp only; omega, (p2.tr (F7.wide (by decide))).up (by decide) _, ?_⟩, by dsimp only; omega, ?_⟩
          · dsimp only
            rw [fu_self, hstep]
            unfold js1 jnum
            rw [cn]
            dsimp only
            rw [if_neg ch]
            exact h3
          · (try dsimp only); rw [B_md_joins_10]; (try simp (disch := omega) only [Option.bind_some, if_true, if_false, eq_self, not_true_eq_false, not_false_eq_true, am_w_id, if_pos, if_neg, fu_self, fu_ne, Int.toNat_natCast, m_gR_2, m_l_2, m_s_2, u1, e7', b1, b2, b3, ch, e8, e9, Int.reduceToNat]); rw [B_md_joins_21]; (try simp (disch := omega) only [Option.bind_some, if_true, if_false, eq_self, not_true_eq_false, not_false_eq_true, am_w_id, if_pos, if_neg, fu_self, fu_ne, Int.toNat_natCast, m_gR_2, m_l_2, m_s_2, m_gR_5, m_l_5, m_s_5, m_O, u1, e7', b1, b2, b3, ch, e8, e9, Int.reduceToNat]); rw [B_md_joins_106]; (try simp (disch := omega) only [Option.bind_some, if_true, if_false, eq_self, not_true_eq_false, not_false_eq_true, am_w_id, if_pos, if_neg, fu_self, fu_ne, Int.toNat_natCast, u1, e7', b1, b2, b3, ch, e8, e9, Int.reduceToNat]); rw [B_md_joins_111]; (try simp (disch := omega) only [Option.bind_some, if_true, if_false, eq_self, not_true_eq_false, not_false_eq_true, am_w_id, if_pos, if_neg, fu_self, fu_ne, Int.toNat_natCast, u1, e7', b1, b2, b3, ch, e8, e9, Int.reduceToNat]); rw [B_md_joins_116]; (try simp (disch := omega) only [Option.bind_some, if_true, if_false, eq_self, not_true_eq_false, not_false_eq_true, am_w_id, if_pos, if_neg, fu_self, fu_ne, Int.toNat_natCast, m_gR_12, m_l_12, m_s_12, m_O, u1, e7', b1, b2, b3, ch, e8, e9, Int.reduceToNat]); rw [B_md_joins_127]; (try simp (disch := omega) only [Option.bind_some, if_true, if_false, eq_self, not_true_eq_false, not_false_eq_true, am_w_id, if_pos, if_neg, fu_self, fu_ne, Int.toNat_natCast, u1, e7', b1, b2, b3, ch, e8, e9, Int.reduceToNat])
      | some y =>
        simp only [cn, reduceCtorEq, if_false] at b2
        by_cases ch : how < 2
        · have b4 := fun d => md_numberOf (g := g) (m_row_5 (m := m)) (by decide) hmW (nu_some cn) d
          have b5 := fun h d => md_byRule hr wp.2.2.2 (nu_bd hvo cn) h d
          obtain ⟨f, e8, h3⟩ := puts9 (byR rule p.2 y)
          refine ⟨(w + 1, am_fu W 12 f, .inl (ah v p.1 : Int), .inl 1, .inl p.2), ⟨by dsimp only; omega, (p2.tr (F7.wide (by decide))).up (by decide) _, ?_⟩, by dsimp only; omega, ?_⟩
          · dsimp only
            rw [fu_self, hstep]
            unfold js1 jnum
            rw [cn]
            dsimp only
            rw [if_pos ch]
            exact h3
          · (try dsimp only); rw [B_md_joins_10]; (try simp (disch := omega) only [Option.bind_some, if_true, if_false, eq_self, not_true_eq_false, not_false_eq_true, am_w_id, if_pos, if_neg, fu_self, fu_ne, Int.toNat_natCast, m_gR_2, m_l_2, m_s_2, u1, e7', b1, b2, b3, b4, b5, e8, e9, Int.reduceToNat, show ¬ (1 : Int) = 0 by decide]); rw [B_md_joins_21]; (try simp (disch := omega) only [Option.bind_some, if_true, if_false, eq_self, not_true_eq_false, not_false_eq_true, am_w_id, if_pos, if_neg, fu_self, fu_ne, Int.toNat_natCast, m_gR_2, m_l_2, m_s_2, m_gR_5, m_l_5, m_s_5, m_O, u1, e7', b1, b2, b3, b4, b5, e8, e9, Int.reduceToNat, show ¬ (1 : Int) = 0 by decide]); rw [B_md_joins_73]; (try simp (disch := omega) only [Option.bind_some, if_true, if_false, eq_self, not_true_eq_false, not_false_eq_true, am_w_id, if_pos, if_neg, fu_self, fu_ne, Int.toNat_natCast, u1, e7', b1, b2, b3, b4, b5, e8, e9, Int.reduceToNat, show ¬ (1 : Int) = 0 by decide]); rw [B_md_joins_78]; (try simp (disch := omega) only [Option.bind_some, if_true, if_false, eq_self, not_true_eq_false, not_false_eq_true, am_w_id, if_pos, if_neg, fu_self, fu_ne, Int.toNat_natCast, m_gR_12, m_l_12, m_s_12, m_gR_5, m_l_5, m_s_5, m_O, u1, e7', b1, b2, b3, b4, b5, e8, e9, Int.reduceToNat, show ¬ (1 : Int) = 0 by decide]); rw [B_md_joins_127]; (try simp (disch := omega) only [Option.bind_some, if_true, if_false, eq_self, not_true_eq_false, not_false_eq_true, am_w_id, if_pos, if_neg, fu_self, fu_ne, Int.toNat_natCast, u1, e7', b1, b2, b3, b4, b5, e8, e9, Int.reduceToNat, show ¬ (1 : Int) = 0 by decide])
        · refine ⟨(w + 1, W, .inl (ah v p.1 : Int), .inl 1, .inl p.2), ⟨by dsimp only; omega, p2.tr (F7.wide (by decide)), ?_⟩, by dsimp only; omega, ?_⟩
          · dsimp only
            rw [hstep]
            unfold js1 jnum
            rw [cn]
            dsimp only
            rw [if_neg ch]
            exact mW
          · (try dsimp only); rw [B_md_joins_10]; (try simp (disch := omega) only [Option.bind_some, if_true, if_false, eq_self, not_true_eq_false, not_false_eq_true, am_w_id, if_pos, if_neg, fu_self, fu_ne, Int.toNat_natCast, m_gR_2, m_l_2, m_s_2, u1, e7', b1, b2, b3, e9, Int.reduceToNat, show ¬ (1 : Int) = 0 by decide]); rw [B_md_joins_21]; (try simp (disch := omega) only [Option.bind_some, if_true, if_false, eq_self, not_true_eq_false, not_false_eq_true, am_w_id, if_pos, if_neg, fu_self, fu_ne, Int.toNat_natCast, m_gR_2, m_l_2, m_s_2, m_gR_5, m_l_5, m_s_5, m_O, u1, e7', b1, b2, b3, e9, Int.reduceToNat, show ¬ (1 : Int) = 0 by decide]); rw [B_md_joins_73]; (try simp (disch := omega) only [Option.bind_some, if_true, if_false, eq_self, not_true_eq_false, not_false_eq_true, am_w_id, if_pos, if_neg, fu_self, fu_ne, Int.toNat_natCast, u1, e7', b1, b2, b3, e9, Int.reduceToNat, show ¬ (1 : Int) = 0 by decide]); rw [B_md_joins_106]; (try simp (disch := omega) only [Option.bind_some, if_true, if_false, eq_self, not_true_eq_false, not_false_eq_true, am_w_id, if_pos, if_neg, fu_self, fu_ne, Int.toNat_natCast, u1, e7', b1, b2, b3, e9, Int.reduceToNat, show ¬ (1 : Int) = 0 by decide]); rw [B_md_joins_127]; (try simp (disch := omega) only [Option.bind_some, if_true, if_false, eq_self, not_true_eq_false, not_false_eq_true, am_w_id, if_pos, if_neg, fu_self, fu_ne, Int.toNat_natCast, u1, e7', b1, b2, b3, e9, Int.reduceToNat, show ¬ (1 : Int) = 0 by decide])
theorem mo_join (H : MR S t ws bs hs sh) (O : okS t ws bs hs sh) (k how rule : Int) (d : Nat) : ∃ S', am_cI (d + 5) N_md_join [.inr (.inr (some (m))), .inl (k), .inl (how), .inl (rule)] (MH m g S) = some ((sp_join k how rule (t, ws, bs, hs, sh)).1, MH m g S') ∧ MS S' (sp_join k how rule (t, ws, bs, hs, sh)).2 := by
  have hl := O.2.1.2.2
  have hb := O.2.2.1.2.2
  have O9 := ok_join (s := (t, ws, bs, hs, sh)) O k how rule
  unfold sp_join at O9 ⊢
  dsimp only [act, MS] at O9 ⊢
  have isn : ∀ (x a b : Int), ∃ y : Int, (∀ d h, am_cI d N_md_isIn [.inr (.inl (x)), .inr (.inl (a)), .inr (.inl (b))] h = some (y, h)) ∧ ((y = 1 ∧ a ≤ x ∧ x ≤ b) ∨ (y = 0 ∧ ¬ (a ≤ x ∧ x ≤ b))) := fun x a b => by
    by_cases c : a ≤ x ∧ x ≤ b
    · exact ⟨1, fun d h => by rw [md_isIn, if_pos c], Or.inl ⟨rfl, c⟩⟩
    · exact ⟨0, fun d h => by rw [md_isIn, if_neg c], Or.inr ⟨rfl, c⟩⟩
  obtain ⟨y1, i1, h1⟩ := isn k 0 2
  obtain ⟨y2, i2, h2⟩ := isn how 0 2
  obtain ⟨y3, i3, h3⟩ := isn rule 0 4
  by_cases c1 : 0 ≤ k ∧ k ≤ 2
  · have y1e : y1 = 1 := by rcases h1 with h | h; exact h.1; exact absurd c1 h.2
    subst y1e
    by_cases c2 : 0 ≤ how ∧ how ≤ 2
    · have y2e : y2 = 1 := by rcases h2 with h | h; exact h.1; exact absurd c2 h.2
      subst y2e
      by_cases c3 : 0 ≤ rule ∧ rule ≤ 4
      · have y3e : y3 = 1 := by rcases h3 with h | h; exact h.1; exact absurd c3 h.2
        subst y3e
        by_cases c4 : how = 2 → rule = 3
        · rw [if_pos ⟨c1, c2, c3, c4⟩] at O9 ⊢
          obtain ⟨n, rfl⟩ := Int.eq_ofNat_of_zero_le c1.1
          have hn : n ≤ 2 := by omega
          rw [Int.toNat_natCast] at O9 ⊢
          obtain ⟨s1, s2⟩ := H.2.2.2.2 n (by omega)
          have e5 : 1201 * (n : Int) = ((1201 * n : Nat) : Int) := by omega
          have to46 : am_call (d + 5) N_md_join [.inr (.inr (some (m))), .inl ((n : Int)), .inl (how), .inl (rule)] (MH m g S) = EV (d + 5) N_md_join T_md_join_46 [.inr (.inr (some (m))), .inl ((n : Int)), .inl (how), .inl (rule), am_nul] [] (MH m g S) := by
            by_cases ch : how = 2
            · have cr := c4 ch
              (try dsimp only); rw [en_md_join]; (try simp (disch := omega) only [Option.bind_some, if_true, if_false, eq_self, not_true_eq_false, not_false_eq_true, am_w_id, if_pos, if_neg, fu_self, fu_ne, Int.toNat_natCast, i1, i2, i3, show ¬ (1 : Int) = 0 by decide]); rw [B_md_join_0]; (try simp (disch := omega) only [Option.bind_some, if_true, if_false, eq_self, not_true_eq_false, not_false_eq_true, am_w_id, if_pos, if_neg, fu_self, fu_ne, Int.toNat_natCast, i1, i2, i3, show ¬ (1 : Int) = 0 by decide]); rw [B_md_join_12]; (try simp (disch := omega) only [Option.bind_some, if_true, if_false, eq_self, not_true_eq_false, not_false_eq_true, am_w_id, if_pos, if_neg, fu_self, fu_ne, Int.toNat_natCast, i1, i2, i3, show ¬ (1 : Int) = 0 by decide]); rw [B_md_join_24]; (try simp (disch := omega) only [Option.bind_some, if_true, if_false, eq_self, not_true_eq_false, not_false_eq_true, am_w_id, if_pos, if_neg, fu_self, fu_ne, Int.toNat_natCast, i1, i2, i3, show ¬ (1 : Int) = 0 by decide])
              (try dsimp only); rw [B_md_join_36]; (try simp (disch := omega) only [Option.bind_some, if_true, if_false, eq_self, not_true_eq_false, not_false_eq_true, am_w_id, if_pos, if_neg, fu_self, fu_ne, Int.toNat_natCast, ch, cr]); rw [B_md_join_41]; (try simp (disch := omega) only [Option.bind_some, if_true, if_false, eq_self, not_true_eq_false, not_false_eq_true, am_w_id, if_pos, if_neg, fu_self, fu_ne, Int.toNat_natCast, ch, cr])
            · (try dsimp only); rw [en_md_join]; (try simp (disch := omega) only [Option.bind_some, if_true, if_false, eq_self, not_true_eq_false, not_false_eq_true, am_w_id, if_pos, if_neg, fu_self, fu_ne, Int.toNat_natCast, i1, i2, i3, ch, show ¬ (1 : Int) = 0 by decide]); rw [B_md_join_0]; (try simp (disch := omega) only [Option.bind_some, if_true, if_false, eq_self, not_true_eq_false, not_false_eq_true, am_w_id, if_pos, if_neg, fu_self, fu_ne, Int.toNat_natCast, i1, i2, i3, ch, show ¬ (1 : Int) = 0 by decide]); rw [B_md_join_12]; (try simp (disch := omega) only [Option.bind_some, if_true, if_false, eq_self, not_true_eq_false, not_false_eq_true, am_w_id, if_pos, if_neg, fu_self, fu_ne, Int.toNat_natCast, i1, i2, i3, ch, show ¬ (1 : Int) = 0 by decide]); rw [B_md_join_24]; (try simp (disch := omega) only [Option.bind_some, if_true, if_false, eq_self, not_true_eq_false, not_false_eq_true, am_w_id, if_pos, if_neg, fu_self, fu_ne, Int.toNat_natCast, i1, i2, i3, ch, show ¬ (1 : Int) = 0 by decide]); rw [B_md_join_36]; (try simp (disch := omega) only [Option.bind_some, if_true, if_false, eq_self, not_true_eq_false, not_false_eq_true, am_w_id, if_pos, if_neg, fu_self, fu_ne, Int.toNat_natCast, i1, i2, i3, ch, show ¬ (1 : Int) = 0 by decide])
          cases hv : sh n with
          | none =>
            rw [if_pos hv] at s1
            refine ⟨S, am_cI_of (to46.trans ?_), H⟩
            (try dsimp only); rw [B_md_join_46]; (try simp (disch := omega) only [Option.bind_some, if_true, if_false, eq_self, not_true_eq_false, not_false_eq_true, am_w_id, if_pos, if_neg, fu_self, fu_ne, Int.toNat_natCast, m_gR_6, m_l_6, m_s_6, s1]); rw [B_md_join_55]; (try simp (disch := omega) only [Option.bind_some, if_true, if_false, eq_self, not_true_eq_false, not_false_eq_true, am_w_id, if_pos, if_neg, fu_self, fu_ne, Int.toNat_natCast, s1])
          | some v =>
            rw [if_neg (by rw [hv]; simp)] at s1
            rw [hv] at O9
            dsimp only at O9 ⊢
            have hvo := O.2.2.2.2 n v hv
            have tail : ∀ (U : Nat → Nat → Int), fd [7, 8] S U → ¬ (how = 0 ∧ 100 < tog ws v) → EV (d + 5) N_md_join T_md_join_57 [.inr (.inr (some (m))), .inl ((n : Int)), .inl (how), .inl (rule), am_nul] [] (MH m g S) = EV (d + 5) N_md_join T_md_join_78 [.inr (.inr (some (m))), .inl ((n : Int)), .inl (how), .inl (rule), am_nul] [] (MH m g U) → ∃ S', am_cI (d + 5) N_md_join [.inr (.inr (some (m))), .inl ((n : Int)), .inl (how), .inl (rule)] (MH m g S) = some (((jn ws v how rule).length : Int), MH m g S') ∧ MR S' t (jn ws v how rule) bs (hpush hs (ws, bs)) sh := by
              intro U FU cc eU
              have hjn := jn_ok (rule := rule) O.2.1 hvo (fun h => by have : ¬ 100 < tog ws v := fun g2 => cc ⟨h, g2⟩; omega)
              have HU := H.frd FU (by decide)
              obtain ⟨V, e6, m6, F6⟩ := md_joins (m := m) (g := g) HU O hn hv c2 c3 d
              have HV := HU.frd F6 (by decide)
              obtain ⟨W, e7, H7, F7⟩ := md_keepsAct (m := m) (g := g) HV O (d + 4)
              have mW : ml 2402 (W 12) 0 (jn ws v how rule) := by rw [F7 12 (by decide)]; exact m6
              have jl := hjn.2.2
              have lp := am_for (F := fun i => EV (d + 5) N_md_join T_md_join_96 [.inr (.inr (some (m))), .inl ((n : Int)), .inl (how), .inl (rule), .inl ((i : Int))] [] (MH m g (am_fu W 2 (prf (W 2) (W 12) i)))) (k := 0) (n := 1201) (Nat.zero_le _) (fun i _ hi => by
                have e9 : (i : Int) + 1 = ((i + 1 : Nat) : Int) := by omega
                (try dsimp only); rw [B_md_join_96]; (try simp (disch := omega) only [Option.bind_some, if_true, if_false, eq_self, not_true_eq_false, not_false_eq_true, am_w_id, if_pos, if_neg, fu_self, fu_ne, Int.toNat_natCast, e9, prf_s, fu_fu]); rw [B_md_join_104]; (try simp (disch := omega) only [Option.bind_some, if_true, if_false, eq_self, not_true_eq_false, not_false_eq_true, am_w_id, if_pos, if_neg, fu_self, fu_ne, Int.toNat_natCast, m_gR_2, m_l_2, m_s_2, m_gR_12, m_l_12, m_s_12, e9, prf_s, fu_fu]))
              rw [prf0, fu_eta] at lp
              have H8 : MR (am_fu W 2 (prf (W 2) (W 12) 1201)) t (jn ws v how rule) bs (hpush hs (ws, bs)) sh := MR_now H7 (ml_cp mW (fun i hi => by rw [prf_lt (by omega)]) (by omega)) (fun i hi => prf_ge hi) hb
              have h80 := H8.2.1.1
              rw [fu_self] at h80
              refine ⟨_, am_cI_of (to46.trans ?_), H8⟩
              have to57 : EV (d + 5) N_md_join T_md_join_46 [.inr (.inr (some (m))), .inl ((n : Int)), .inl (how), .inl (rule), am_nul] [] (MH m g S) = EV (d + 5) N_md_join T_md_join_57 [.inr (.inr (some (m))), .inl ((n : Int)), .inl (how), .inl (rule), am_nul] [] (MH m g S) := by
                (try dsimp only); rw [B_md_join_46]; (try simp (disch := omega) only [Option.bind_some, if_true, if_false, eq_self, not_true_eq_false, not_false_eq_true, am_w_id, if_pos, if_neg, fu_self, fu_ne, Int.toNat_natCast, m_gR_6, m_l_6, m_s_6, s1, show ¬ (1 : Int) = 0 by decide])
              refine to57.trans (eU.trans ?_)
              (try dsimp only); rw [B_md_join_78]; (try simp (disch := omega) only [Option.bind_some, if_true, if_false, eq_self, not_true_eq_false, not_false_eq_true, am_w_id, if_pos, if_neg, fu_self, fu_ne, Int.toNat_natCast, m_O, e5, e6, e7])
              refine lp.trans ?_
              (try dsimp only); rw [B_md_join_96]; (try simp (disch := omega) only [Option.bind_some, if_true, if_false, eq_self, not_true_eq_false, not_false_eq_true, am_w_id, if_pos, if_neg, fu_self, fu_ne, Int.toNat_natCast, h80, Int.reduceToNat]); rw [B_md_join_124]; (try simp (disch := omega) only [Option.bind_some, if_true, if_false, eq_self, not_true_eq_false, not_false_eq_true, am_w_id, if_pos, if_neg, fu_self, fu_ne, Int.toNat_natCast, m_gR_2, m_l_2, m_s_2, h80, Int.reduceToNat])
            by_cases ch : how = 0
            · obtain ⟨U, e6, F6⟩ := md_together (m := m) (g := g) H O hn hv (d + 1)
              by_cases cc : 100 < tog ws v
              · rw [if_pos ⟨ch, cc⟩]
                refine ⟨U, am_cI_of (to46.trans ?_), H.frd F6 (by decide)⟩
                have cc' : ¬ (tog ws v : Int) ≤ 100 := by omega
                (try dsimp only); rw [B_md_join_46]; (try simp (disch := omega) only [Option.bind_some, if_true, if_false, eq_self, not_true_eq_false, not_false_eq_true, am_w_id, if_pos, if_neg, fu_self, fu_ne, Int.toNat_natCast, m_gR_6, m_l_6, m_s_6, s1, ch, e5, e6, cc', show ¬ (1 : Int) = 0 by decide]); rw [B_md_join_57]; (try simp (disch := omega) only [Option.bind_some, if_true, if_false, eq_self, not_true_eq_false, not_false_eq_true, am_w_id, if_pos, if_neg, fu_self, fu_ne, Int.toNat_natCast, s1, ch, e5, e6, cc', show ¬ (1 : Int) = 0 by decide]); rw [B_md_join_61]; (try simp (disch := omega) only [Option.bind_some, if_true, if_false, eq_self, not_true_eq_false, not_false_eq_true, am_w_id, if_pos, if_neg, fu_self, fu_ne, Int.toNat_natCast, m_O, s1, ch, e5, e6, cc', show ¬ (1 : Int) = 0 by decide]); rw [B_md_join_75]; (try simp (disch := omega) only [Option.bind_some, if_true, if_false, eq_self, not_true_eq_false, not_false_eq_true, am_w_id, if_pos, if_neg, fu_self, fu_ne, Int.toNat_natCast, s1, ch, e5, e6, cc', show ¬ (1 : Int) = 0 by decide])
              · rw [if_neg (fun h => cc h.2)]
                refine tail U F6 (fun h => cc h.2) ?_
                have cc' : (tog ws v : Int) ≤ 100 := by omega
                (try dsimp only); rw [B_md_join_57]; (try simp (disch := omega) only [Option.bind_some, if_true, if_false, eq_self, not_true_eq_false, not_false_eq_true, am_w_id, if_pos, if_neg, fu_self, fu_ne, Int.toNat_natCast, ch, e5, e6, cc']); rw [B_md_join_61]; (try simp (disch := omega) only [Option.bind_some, if_true, if_false, eq_self, not_true_eq_false, not_false_eq_true, am_w_id, if_pos, if_neg, fu_self, fu_ne, Int.toNat_natCast, m_O, ch, e5, e6, cc'])
            · rw [if_neg (fun h => ch h.1)]
              refine tail S fd.rf (fun h => ch h.1) ?_
              (try dsimp only); rw [B_md_join_57]; (try simp (disch := omega) only [Option.bind_some, if_true, if_false, eq_self, not_true_eq_false, not_false_eq_true, am_w_id, if_pos, if_neg, fu_self, fu_ne, Int.toNat_natCast, ch])
        · rw [if_neg (fun h => c4 h.2.2.2)]
          have ch : how = 2 := by
            rcases Int.lt_trichotomy how 2 with h | h | h
            · exact absurd (fun h2 => by omega) c4
            · exact h
            · omega
          have cr : ¬ rule = 3 := fun h => c4 (fun _ => h)
          refine ⟨S, am_cI_of ?_, H⟩
          (try dsimp only); rw [en_md_join]; (try simp (disch := omega) only [Option.bind_some, if_true, if_false, eq_self, not_true_eq_false, not_false_eq_true, am_w_id, if_pos, if_neg, fu_self, fu_ne, Int.toNat_natCast, i1, i2, i3, show ¬ (1 : Int) = 0 by decide]); rw [B_md_join_0]; (try simp (disch := omega) only [Option.bind_some, if_true, if_false, eq_self, not_true_eq_false, not_false_eq_true, am_w_id, if_pos, if_neg, fu_self, fu_ne, Int.toNat_natCast, i1, i2, i3, show ¬ (1 : Int) = 0 by decide]); rw [B_md_join_12]; (try simp (disch := omega) only [Option.bind_some, if_true, if_false, eq_self, not_true_eq_false, not_false_eq_true, am_w_id, if_pos, if_neg, fu_self, fu_ne, Int.toNat_natCast, i1, i2, i3, show ¬ (1 : Int) = 0 by decide]); rw [B_md_join_24]; (try simp (disch := omega) only [Option.bind_some, if_true, if_false, eq_self, not_true_eq_false, not_false_eq_true, am_w_id, if_pos, if_neg, fu_self, fu_ne, Int.toNat_natCast, i1, i2, i3, show ¬ (1 : Int) = 0 by decide])
          (try dsimp only); rw [B_md_join_36]; (try simp (disch := omega) only [Option.bind_some, if_true, if_false, eq_self, not_true_eq_false, not_false_eq_true, am_w_id, if_pos, if_neg, fu_self, fu_ne, Int.toNat_natCast, ch, cr]); rw [B_md_join_41]; (try simp (disch := omega) only [Option.bind_some, if_true, if_false, eq_self, not_true_eq_false, not_false_eq_true, am_w_id, if_pos, if_neg, fu_self, fu_ne, Int.toNat_natCast, ch, cr]); rw [B_md_join_55]; (try simp (disch := omega) only [Option.bind_some, if_true, if_false, eq_self, not_true_eq_false, not_false_eq_true, am_w_id, if_pos, if_neg, fu_self, fu_ne, Int.toNat_natCast, ch, cr])
      · have y3e : y3 = 0 := by rcases h3 with h | h; exact absurd h.2 c3; exact h.1
        subst y3e
        rw [if_neg (fun h => c3 h.2.2.1)]
        refine ⟨S, am_cI_of ?_, H⟩
        (try dsimp only); rw [en_md_join]; (try simp (disch := omega) only [Option.bind_some, if_true, if_false, eq_self, not_true_eq_false, not_false_eq_true, am_w_id, if_pos, if_neg, fu_self, fu_ne, Int.toNat_natCast, i1, i2, i3, show ¬ (1 : Int) = 0 by decide]); rw [B_md_join_0]; (try simp (disch := omega) only [Option.bind_some, if_true, if_false, eq_self, not_true_eq_false, not_false_eq_true, am_w_id, if_pos, if_neg, fu_self, fu_ne, Int.toNat_natCast, i1, i2, i3, show ¬ (1 : Int) = 0 by decide]); rw [B_md_join_12]; (try simp (disch := omega) only [Option.bind_some, if_true, if_false, eq_self, not_true_eq_false, not_false_eq_true, am_w_id, if_pos, if_neg, fu_self, fu_ne, Int.toNat_natCast, i1, i2, i3, show ¬ (1 : Int) = 0 by decide]); rw [B_md_join_24]; (try simp (disch := omega) only [Option.bind_some, if_true, if_false, eq_self, not_true_eq_false, not_false_eq_true, am_w_id, if_pos, if_neg, fu_self, fu_ne, Int.toNat_natCast, i1, i2, i3, show ¬ (1 : Int) = 0 by decide]); rw [B_md_join_55]; (try simp (disch := omega) only [Option.bind_some, if_true, if_false, eq_self, not_true_eq_false, not_false_eq_true, am_w_id, if_pos, if_neg, fu_self, fu_ne, Int.toNat_natCast, i1, i2, i3, show ¬ (1 : Int) = 0 by decide])
    · have y2e : y2 = 0 := by rcases h2 with h | h; exact absurd h.2 c2; exact h.1
      subst y2e
      rw [if_neg (fun h => c2 h.2.1)]
      refine ⟨S, am_cI_of ?_, H⟩
      (try dsimp only); rw [en_md_join]; (try simp (disch := omega) only [Option.bind_some, if_true, if_false, eq_self, not_true_eq_false, not_false_eq_true, am_w_id, if_pos, if_neg, fu_self, fu_ne, Int.toNat_natCast, i1, i2, show ¬ (1 : Int) = 0 by decide]); rw [B_md_join_0]; (try simp (disch := omega) only [Option.bind_some, if_true, if_false, eq_self, not_true_eq_false, not_false_eq_true, am_w_id, if_pos, if_neg, fu_self, fu_ne, Int.toNat_natCast, i1, i2, show ¬ (1 : Int) = 0 by decide]); rw [B_md_join_12]; (try simp (disch := omega) only [Option.bind_some, if_true, if_false, eq_self, not_true_eq_false, not_false_eq_true, am_w_id, if_pos, if_neg, fu_self, fu_ne, Int.toNat_natCast, i1, i2, show ¬ (1 : Int) = 0 by decide]); rw [B_md_join_55]; (try simp (disch := omega) only [Option.bind_some, if_true, if_false, eq_self, not_true_eq_false, not_false_eq_true, am_w_id, if_pos, if_neg, fu_self, fu_ne, Int.toNat_natCast, i1, i2, show ¬ (1 : Int) = 0 by decide])
  · have y1e : y1 = 0 := by rcases h1 with h | h; exact absurd h.2 c1; exact h.1
    subst y1e
    rw [if_neg (fun h => c1 h.1)]
    refine ⟨S, am_cI_of ?_, H⟩
    (try dsimp only); rw [en_md_join]; (try simp (disch := omega) only [Option.bind_some, if_true, if_false, eq_self, not_true_eq_false, not_false_eq_true, am_w_id, if_pos, if_neg, fu_self, fu_ne, Int.toNat_natCast, i1]); rw [B_md_join_0]; (try simp (disch := omega) only [Option.bind_some, if_true, if_false, eq_self, not_true_eq_false, not_false_eq_true, am_w_id, if_pos, if_neg, fu_self, fu_ne, Int.toNat_natCast, i1]); rw [B_md_join_55]; (try simp (disch := omega) only [Option.bind_some, if_true, if_false, eq_self, not_true_eq_false, not_false_eq_true, am_w_id, if_pos, if_neg, fu_self, fu_ne, Int.toNat_natCast, i1])
end MO
