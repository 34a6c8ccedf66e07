/-! join: what the merging comes to -/
def ao (o : Option Int) (w : List Int) (l : List wd) : List wd := match o with
  | some m => (w, m) :: l
  | none => l
def mg (how rule : Int) : Nat → List wd → List wd → List wd
  | 0, _, _ => []
  | _ + 1, [], [] => []
  | n + 1, p :: ws, [] => ao (jnum (some p.2) none how rule) p.1 (mg how rule n ws [])
  | n + 1, [], q :: v => ao (jnum none (some q.2) how rule) q.1 (mg how rule n [] v)
  | n + 1, p :: ws, q :: v => if lx p.1 q.1 = true then ao (jnum (some p.2) none how rule) p.1 (mg how rule n ws (q :: v)) else if lx q.1 p.1 = true then ao (jnum none (some q.2) how rule) q.1 (mg how rule n (p :: ws) v) else ao (jnum (some p.2) (some q.2) how rule) p.1 (mg how rule n ws v)
section JM
variable {how rule : Int}
theorem ao_mem {o : Option Int} {w t : List Int} {l : List wd} {n : Int} : (t, n) ∈ ao o w l ↔ (t = w ∧ o = some n) ∨ (t, n) ∈ l := by
  cases o with
  | none => exact ⟨fun h => Or.inr h, fun h => h.elim (fun g => by simp at g) id⟩
  | some m =>
    show (t, n) ∈ (w, m) :: l ↔ _
    rw [List.mem_cons]
    constructor
    · rintro (g | g)
      · injection g with g1 g2
        exact Or.inl ⟨g1, by rw [g2]⟩
      · exact Or.inr g
    · rintro (⟨g1, g2⟩ | g)
      · injection g2 with g2
        exact Or.inl (by rw [g1, g2])
      · exact Or.inr g
theorem nu_cons {p : wd} {l : List wd} (h : so (p :: l)) (t : List Int) : nu (p :: l) t = if t = p.1 then some p.2 else nu l t := by
  have hl : so l := (List.pairwise_cons.mp h).2
  by_cases c : t = p.1
  · rw [if_pos c, c]
    exact nu_get h (i := 0) rfl
  · rw [if_neg c]
    cases e : nu l t with
    | some n => exact (nu_mem h).mpr (List.mem_cons_of_mem _ ((nu_mem hl).mp e))
    | none =>
      cases e2 : nu (p :: l) t with
      | none => rfl
      | some n =>
        rcases List.mem_cons.mp ((nu_mem h).mp e2) with g | g
        · exact absurd (congrArg Prod.fst g) c
        · rw [(nu_mem hl).mpr g] at e
          simp at e
theorem nu_low {l : List wd} (hs : so l) {t : List Int} (h : ∀ q ∈ l, lx t q.1 = true) : nu l t = none := by
  cases e : nu l t with
  | none => rfl
  | some n =>
    have := h _ ((nu_mem hs).mp e)
    rw [lx_irr] at this
    exact Bool.noConfusion this
theorem so_nil : so [] := List.Pairwise.nil
theorem nu_nl (t : List Int) : nu [] t = none := nu_low so_nil (fun q hq => by simp at hq)
theorem mg_step {ws v : List wd} (hw : so ws) (hv : so v) (hne : ws ≠ [] ∨ v ≠ []) (N : Nat) : ∃ w a b ws' v', mg how rule (N + 1) ws v = ao (jnum a b how rule) w (mg how rule N ws' v') ∧ (so ws' ∧ so v') ∧ ws'.length + v'.length < ws.length + v.length ∧
    (∀ t, nu ws t = if t = w then a else nu ws' t) ∧ (∀ t, nu v t = if t = w then b else nu v' t) ∧ (∀ q ∈ ws', lx w q.1 = true) ∧ ∀ q ∈ v', lx w q.1 = true := by
  have noif : ∀ {l : List wd} {w : List Int}, so l → (∀ q ∈ l, lx w q.1 = true) → ∀ t, nu l t = if t = w then none else nu l t := fun {l w} hl h t => by
    by_cases c : t = w
    · rw [if_pos c, c]; exact nu_low hl h
    · rw [if_neg c]
  cases ws with
  | nil =>
    cases v with
    | nil => rcases hne with h | h <;> exact absurd rfl h
    | cons q v =>
      obtain ⟨g1, g2⟩ := List.pairwise_cons.mp hv
      exact ⟨q.1, none, some q.2, [], v, rfl, ⟨hw, g2⟩, by simp, noif hw (fun p hp => by simp at hp), nu_cons hv, fun p hp => by simp at hp, g1⟩
  | cons p ws =>
    obtain ⟨f1, f2⟩ := List.pairwise_cons.mp hw
    cases v with
    | nil => exact ⟨p.1, some p.2, none, ws, [], rfl, ⟨f2, hv⟩, by simp, nu_cons hw, noif hv (fun p hp => by simp at hp), f1, fun p hp => by simp at hp⟩
    | cons q v =>
      obtain ⟨g1, g2⟩ := List.pairwise_cons.mp hv
      have em : mg how rule (N + 1) (p :: ws) (q :: v) = if lx p.1 q.1 = true then ao (jnum (some p.2) none how rule) p.1 (mg how rule N ws (q :: v)) else if lx q.1 p.1 = true then ao (jnum none (some q.2) how rule) q.1 (mg how rule N (p :: ws) v) else ao (jnum (some p.2) (some q.2) how rule) p.1 (mg how rule N ws v) := rfl
      by_cases c1 : lx p.1 q.1 = true
      · have h1 : ∀ r ∈ q :: v, lx p.1 r.1 = true := fun r hr => (List.mem_cons.mp hr).elim (fun e => by rw [e]; exact c1) (fun e => lx_tr _ _ _ c1 (g1 r e))
        exact ⟨p.1, some p.2, none, ws, q :: v, by rw [em, if_pos c1], ⟨f2, hv⟩, by simp only [List.length_cons]; omega, nu_cons hw, noif hv h1, f1, h1⟩
      · by_cases c2 : lx q.1 p.1 = true
        · have h1 : ∀ r ∈ p :: ws, lx q.1 r.1 = true := fun r hr => (List.mem_cons.mp hr).elim (fun e => by rw [e]; exact c2) (fun e => lx_tr _ _ _ c2 (f1 r e))
          exact ⟨q.1, none, some q.2, p :: ws, v, by rw [em, if_neg c1, if_pos c2], ⟨hw, g2⟩, by simp only [List.length_cons]; omega, noif hw h1, nu_cons hv, h1, g1⟩
        · have e : p.1 = q.1 := by
            rcases lx_tri p.1 q.1 with h | h | h
            · exact absurd h c1
            · exact h
            · exact absurd h c2
          exact ⟨p.1, some p.2, some q.2, ws, v, by rw [em, if_neg c1, if_neg c2], ⟨f2, g2⟩, by simp only [List.length_cons]; omega, nu_cons hw, by rw [e]; exact nu_cons hv, f1, by rw [e]; exact g1⟩
theorem mg_mem : ∀ (N : Nat) (ws v : List wd), so ws → so v → ws.length + v.length ≤ N → (∀ t n, (t, n) ∈ mg how rule N ws v ↔ jnum (nu ws t) (nu v t) how rule = some n) ∧ so (mg how rule N ws v) := by
  intro N
  have nl : ∀ N, mg how rule N [] [] = [] := fun N => by cases N <;> rfl
  induction N with
  | zero =>
    intro ws v hw hv hl
    have e1 : ws = [] := List.eq_nil_of_length_eq_zero (by omega)
    have e2 : v = [] := List.eq_nil_of_length_eq_zero (by omega)
    rw [e1, e2, nl]
    exact ⟨fun t n => by rw [nu_nl]; simp [jnum], so_nil⟩
  | succ N ih =>
    intro ws v hw hv hl
    by_cases hne : ws ≠ [] ∨ v ≠ []
    · obtain ⟨w, a, b, ws', v', e, ⟨s1, s2⟩, hlt, n1, n2, l1, l2⟩ := mg_step (how := how) (rule := rule) hw hv hne N
      obtain ⟨i1, i2⟩ := ih ws' v' s1 s2 (by omega)
      rw [e]
      constructor
      · intro t n
        rw [ao_mem, i1, n1, n2]
        by_cases c : t = w
        · rw [if_pos c, if_pos c, c, nu_low s1 l1, nu_low s2 l2]
          constructor
          · rintro (g | g)
            · exact g.2
            · simp [jnum] at g
          · intro g
            exact Or.inl ⟨rfl, g⟩
        · rw [if_neg c, if_neg c]
          exact ⟨fun g => g.elim (fun q => absurd q.1 c) id, Or.inr⟩
      · cases hj : jnum a b how rule with
        | none => exact i2
        | some m =>
          refine List.pairwise_cons.mpr ⟨fun x hx => ?_, i2⟩
          have hx' : (x.1, x.2) ∈ mg how rule N ws' v' := hx
          rw [i1] at hx'
          cases e1 : nu ws' x.1 with
          | some y => exact l1 (x.1, y) ((nu_mem s1).mp e1)
          | none =>
            cases e2 : nu v' x.1 with
            | some y => exact l2 (x.1, y) ((nu_mem s2).mp e2)
            | none => rw [e1, e2] at hx'; simp [jnum] at hx'
    · have e1 : ws = [] := Decidable.not_not.mp (fun g => hne (Or.inl g))
      have e2 : v = [] := Decidable.not_not.mp (fun g => hne (Or.inr g))
      rw [e1, e2, nl]
      exact ⟨fun t n => by rw [nu_nl]; simp [jnum], so_nil⟩
theorem js1_mem (v : List wd) : ∀ (l acc : List wd), so acc → so l → (∀ p ∈ l, ∀ n, (p.1, n) ∉ acc) → so (l.foldl (js1 v how rule) acc) ∧ ∀ t n, (t, n) ∈ l.foldl (js1 v how rule) acc ↔ (t, n) ∈ acc ∨ ∃ x, (t, x) ∈ l ∧ jnum (some x) (nu v t) how rule = some n
  | [], acc, h1, h2, h3 => ⟨h1, fun t n => by simp⟩
  | p :: l, acc, h1, h2, h3 => by
    obtain ⟨g1, g2⟩ := List.pairwise_cons.mp h2
    rw [List.foldl_cons]
    have hno : ∀ q ∈ l, q.1 ≠ p.1 := fun q hq e => by
      have := g1 q hq
      rw [e, lx_irr] at this
      exact Bool.noConfusion this
    cases e : jnum (some p.2) (nu v p.1) how rule with
    | none =>
      have ej : js1 v how rule acc p = acc := by unfold js1; rw [e]
      obtain ⟨r1, r2⟩ := js1_mem v l acc h1 g2 (fun q hq => h3 q (List.mem_cons_of_mem _ hq))
      rw [ej]
      refine ⟨r1, fun t n => (r2 t n).trans ?_⟩
      constructor
      · rintro (q | ⟨x, q1, q2⟩)
        · exact Or.inl q
        · exact Or.inr ⟨x, List.mem_cons_of_mem _ q1, q2⟩
      · rintro (q | ⟨x, q1, q2⟩)
        · exact Or.inl q
        · rcases List.mem_cons.mp q1 with g | g
          · have e1 : t = p.1 := congrArg Prod.fst g
            have e2 : x = p.2 := congrArg Prod.snd g
            rw [e1, e2, e] at q2
            simp at q2
          · exact Or.inr ⟨x, g, q2⟩
    | some m =>
      have ej : js1 v how rule acc p = put acc p.1 m := by unfold js1; rw [e]
      have hmem : ∀ t n, (t, n) ∈ put acc p.1 m ↔ (t = p.1 ∧ n = m) ∨ (t, n) ∈ acc := fun t n => by
        rw [put_mem' h1]
        constructor
        · rintro (q | q)
          · exact Or.inl q
          · exact Or.inr q.2
        · rintro (q | q)
          · exact Or.inl q
          · by_cases c : t = p.1
            · rw [c] at q
              exact absurd q (h3 p List.mem_cons_self n)
            · exact Or.inr ⟨c, q⟩
      obtain ⟨r1, r2⟩ := js1_mem v l (put acc p.1 m) (put_so h1 p.1 m) g2 (fun q hq n hn => by
        rcases (hmem q.1 n).mp hn with g | g
        · exact hno q hq g.1
        · exact h3 q (List.mem_cons_of_mem _ hq) n g)
      rw [ej]
      refine ⟨r1, fun t n => (r2 t n).trans ?_⟩
      rw [hmem]
      constructor
      · rintro ((q | q) | ⟨x, q1, q2⟩)
        · exact Or.inr ⟨p.2, by rw [q.1]; exact List.mem_cons_self, by rw [q.1, q.2]; exact e⟩
        · exact Or.inl q
        · exact Or.inr ⟨x, List.mem_cons_of_mem _ q1, q2⟩
      · rintro (q | ⟨x, q1, q2⟩)
        · exact Or.inl (Or.inr q)
        · rcases List.mem_cons.mp q1 with g | g
          · have e1 : t = p.1 := congrArg Prod.fst g
            have e2 : x = p.2 := congrArg Prod.snd g
            rw [e1, e2, e] at q2
            injection q2 with q2
            exact Or.inl (Or.inl ⟨e1, q2.symm⟩)
          · exact Or.inr ⟨x, g, q2⟩
theorem js2_mem (ws : List wd) : ∀ (l acc : List wd), so acc → so l → (∀ p ∈ l, nu ws p.1 = none → ∀ n, (p.1, n) ∉ acc) → so (l.foldl (js2 ws how) acc) ∧ ∀ t n, (t, n) ∈ l.foldl (js2 ws how) acc ↔ (t, n) ∈ acc ∨ ((t, n) ∈ l ∧ (nu ws t = none ∧ how = 0))
  | [], acc, h1, h2, h3 => ⟨h1, fun t n => by simp⟩
  | p :: l, acc, h1, h2, h3 => by
    obtain ⟨g1, g2⟩ := List.pairwise_cons.mp h2
    rw [List.foldl_cons]
    have hno : ∀ q ∈ l, q.1 ≠ p.1 := fun q hq e => by
      have := g1 q hq
      rw [e, lx_irr] at this
      exact Bool.noConfusion this
    by_cases e : nu ws p.1 = none ∧ how = 0
    · have ej : js2 ws how acc p = put acc p.1 p.2 := by unfold js2; rw [if_pos e]
      have hmem : ∀ t n, (t, n) ∈ put acc p.1 p.2 ↔ (t = p.1 ∧ n = p.2) ∨ (t, n) ∈ acc := fun t n => by
        rw [put_mem' h1]
        constructor
        · rintro (q | q)
          · exact Or.inl q
          · exact Or.inr q.2
        · rintro (q | q)
          · exact Or.inl q
          · by_cases c : t = p.1
            · rw [c] at q
              exact absurd q (h3 p List.mem_cons_self e.1 n)
            · exact Or.inr ⟨c, q⟩
      obtain ⟨r1, r2⟩ := js2_mem ws l (put acc p.1 p.2) (put_so h1 p.1 p.2) g2 (fun q hq hn n hm => by
        rcases (hmem q.1 n).mp hm with g | g
        · exact hno q hq g.1
        · exact h3 q (List.mem_cons_of_mem _ hq) hn n g)
      rw [ej]
      refine ⟨r1, fun t n => (r2 t n).trans ?_⟩
      rw [hmem]
      constructor
      · rintro ((q | q) | ⟨q1, q2⟩)
        · exact Or.inr ⟨by rw [q.1, q.2]; exact List.mem_cons_self, by rw [q.1]; exact e⟩
        · exact Or.inl q
        · exact Or.inr ⟨List.mem_cons_of_mem _ q1, q2⟩
      · rintro (q | ⟨q1, q2⟩)
        · exact Or.inl (Or.inr q)
        · rcases List.mem_cons.mp q1 with g | g
          · exact Or.inl (Or.inl ⟨congrArg Prod.fst g, congrArg Prod.snd g⟩)
          · exact Or.inr ⟨g, q2⟩
    · have ej : js2 ws how acc p = acc := by unfold js2; rw [if_neg e]
      obtain ⟨r1, r2⟩ := js2_mem ws l acc h1 g2 (fun q hq => h3 q (List.mem_cons_of_mem _ hq))
      rw [ej]
      refine ⟨r1, fun t n => (r2 t n).trans ?_⟩
      constructor
      · rintro (q | ⟨q1, q2⟩)
        · exact Or.inl q
        · exact Or.inr ⟨List.mem_cons_of_mem _ q1, q2⟩
      · rintro (q | ⟨q1, q2⟩)
        · exact Or.inl q
        · rcases List.mem_cons.mp q1 with g | g
          · have e1 : t = p.1 := congrArg Prod.fst g
            rw [e1] at q2
            exact absurd q2 e
          · exact Or.inr ⟨g, q2⟩
theorem jn_mem {ws v : List wd} (hw : so ws) (hv : so v) : so (jn ws v how rule) ∧ ∀ t n, (t, n) ∈ jn ws v how rule ↔ jnum (nu ws t) (nu v t) how rule = some n := by
  obtain ⟨a1, a2⟩ := js1_mem (how := how) (rule := rule) v ws [] so_nil hw (fun p _ n h => by simp at h)
  obtain ⟨b1, b2⟩ := js2_mem (how := how) ws v (ws.foldl (js1 v how rule) []) a1 hv (fun p _ hp n h => by
    rcases (a2 p.1 n).mp h with g | ⟨x, g, _⟩
    · simp at g
    · rw [(nu_mem hw).mpr g] at hp
      simp at hp)
  refine ⟨b1, fun t n => (b2 t n).trans ?_⟩
  rw [a2]
  cases e : nu ws t with
  | some x =>
    constructor
    · rintro ((q | ⟨y, q1, q2⟩) | q)
      · simp at q
      · rw [(nu_mem hw).mpr q1] at e
        injection e with e
        rw [← e]
        exact q2
      · exact absurd q.2.1 (by simp)
    · intro q
      exact Or.inl (Or.inr ⟨x, (nu_mem hw).mp e, q⟩)
  | none =>
    constructor
    · rintro ((q | ⟨y, q1, q2⟩) | ⟨q1, _, q3⟩)
      · simp at q
      · rw [(nu_mem hw).mpr q1] at e
        simp at e
      · rw [(nu_mem hv).mpr q1]
        unfold jnum
        dsimp only
        rw [if_pos q3]
    · intro q
      cases e2 : nu v t with
      | none => rw [e2] at q; simp [jnum] at q
      | some y =>
        rw [e2] at q
        unfold jnum at q
        dsimp only at q
        split at q
        · next c =>
          injection q with q
          exact Or.inr ⟨by rw [← q]; exact (nu_mem hv).mp e2, rfl, c⟩
        · simp at q
theorem mg_jn {ws v : List wd} (hw : so ws) (hv : so v) {N : Nat} (hN : ws.length + v.length ≤ N) : mg how rule N ws v = jn ws v how rule := by
  obtain ⟨a1, a2⟩ := mg_mem (how := how) (rule := rule) N ws v hw hv hN
  obtain ⟨b1, b2⟩ := jn_mem (how := how) (rule := rule) hw hv
  exact so_ext a2 b1 (fun x => (a1 x.1 x.2).trans (b2 x.1 x.2).symm)
/-- words that are put together are at least all of them -/
theorem jn_tog {ws v : List wd} (hw : so ws) (hv : so v) : tog ws v ≤ (jn ws v 0 rule).length := by
  obtain ⟨b1, b2⟩ := jn_mem (how := 0) (rule := rule) hw hv
  have nd : ∀ {l : List wd}, so l → (l.map (fun p => p.1)).Nodup := fun {l} h => by
    unfold List.Nodup
    rw [List.pairwise_map]
    refine List.Pairwise.imp (fun {a b} hab e => ?_) h
    rw [e, lx_irr] at hab
    exact Bool.noConfusion hab
  have h1 : (ws.map (fun p => p.1) ++ (v.filter (fun q => decide (nu ws q.1 = none))).map (fun p => p.1)).Nodup := by
    unfold List.Nodup
    rw [List.pairwise_append]
    refine ⟨nd hw, nd (List.Pairwise.filter _ hv), fun a ha b hb e => ?_⟩
    obtain ⟨p, hp, rfl⟩ := List.mem_map.mp ha
    obtain ⟨q, hq, rfl⟩ := List.mem_map.mp hb
    have hq2 := of_decide_eq_true (List.mem_filter.mp hq).2
    rw [← e, (nu_mem hw).mpr hp] at hq2
    simp at hq2
  have h2 : (ws.map (fun p => p.1) ++ (v.filter (fun q => decide (nu ws q.1 = none))).map (fun p => p.1)) ⊆ (jn ws v 0 rule).map (fun p => p.1) := by
    intro a ha
    rcases List.mem_append.mp ha with g | g
    · obtain ⟨p, hp, rfl⟩ := List.mem_map.mp g
      have e1 := (nu_mem hw).mpr (show (p.1, p.2) ∈ ws from hp)
      cases e2 : nu v p.1 with
      | none => exact List.mem_map.mpr ⟨(p.1, p.2), (b2 _ _).mpr (by rw [e1, e2]; simp [jnum]), rfl⟩
      | some y => exact List.mem_map.mpr ⟨(p.1, byR rule p.2 y), (b2 _ _).mpr (by rw [e1, e2]; simp [jnum]), rfl⟩
    · obtain ⟨q, hq, rfl⟩ := List.mem_map.mp g
      obtain ⟨hq1, hq2⟩ := List.mem_filter.mp hq
      have e1 := of_decide_eq_true hq2
      have e2 := (nu_mem hv).mpr (show (q.1, q.2) ∈ v from hq1)
      exact List.mem_map.mpr ⟨(q.1, q.2), (b2 _ _).mpr (by rw [e1, e2]; simp [jnum]), rfl⟩
  have h3 := h1.length_le_of_subset h2
  rw [List.length_append, List.length_map, List.length_map, List.length_map] at h3
  exact h3
end JM
