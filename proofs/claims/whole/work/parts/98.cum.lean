/-! pieces of a text, by how long they are -/
section CM
variable {ws : List wd} {u : List Int}
/-- the number of the word of so many letters that stands somewhere -/
def pcw (ws : List wd) (u : List Int) (i L : Nat) : Option Int := if i + L ≤ u.length then nu ws ((u.drop i).take L) else none
theorem pcw_iff (hok : ok ws) {i L : Nat} {n : Int} : pcw ws u i L = some n ↔ ∃ q ∈ stw ws u i, q.1.length = L ∧ q.2 = n := by
  unfold pcw
  constructor
  · intro h
    split at h
    · next c =>
      refine ⟨((u.drop i).take L, n), stw_mem.mpr ⟨(nu_mem hok.2.1).mp h, List.take_prefix _ _⟩, ?_, rfl⟩
      dsimp only
      rw [List.length_take, List.length_drop]
      omega
    · simp at h
  · rintro ⟨q, hq, rfl, rfl⟩
    have h1 := stw_len hok.1 hq
    obtain ⟨h2, h3⟩ := stw_mem.mp hq
    rw [if_pos (by omega), ← List.prefix_iff_eq_take.mp h3]
    exact (nu_mem hok.2.1).mpr h2
theorem pcw_len (hok : ok ws) {i L : Nat} {n : Int} (h : pcw ws u i L = some n) : (1 ≤ L ∧ L ≤ 10) ∧ i + L ≤ u.length ∧ (0 ≤ n ∧ n ≤ 999999) := by
  obtain ⟨q, hq, rfl, rfl⟩ := (pcw_iff hok).mp h
  have h1 := stw_len hok.1 hq
  have h2 := (hok.1 q (stw_mem.mp hq).1).2.2.2
  omega
/-- what a fold over pieces comes to -/
theorem gst_fold {W : wd → tri} : ∀ (l : List wd) (v : tri), (∀ q ∈ l, (W q).1 = -2 ∨ 0 ≤ (W q).1) →
    (v.2.1 ≤ (l.foldl (fun v q => gst1 v q (W q)) v).2.1 ∧ (∀ q ∈ l, (W q).1 ≠ -2 → (W q).2.1 + q.2 ≤ (l.foldl (fun v q => gst1 v q (W q)) v).2.1) ∧ ((l.foldl (fun v q => gst1 v q (W q)) v).2.1 = v.2.1 ∨ ∃ q ∈ l, (W q).1 ≠ -2 ∧ (l.foldl (fun v q => gst1 v q (W q)) v).2.1 = (W q).2.1 + q.2)) ∧
    ((v.1 ≠ -2 → (l.foldl (fun v q => gst1 v q (W q)) v).1 ≠ -2 ∧ (l.foldl (fun v q => gst1 v q (W q)) v).1 ≤ v.1) ∧ (∀ q ∈ l, (W q).1 ≠ -2 → (l.foldl (fun v q => gst1 v q (W q)) v).1 ≠ -2 ∧ (l.foldl (fun v q => gst1 v q (W q)) v).1 ≤ (W q).1 + 1) ∧ ((l.foldl (fun v q => gst1 v q (W q)) v).1 = v.1 ∨ ∃ q ∈ l, (W q).1 ≠ -2 ∧ (l.foldl (fun v q => gst1 v q (W q)) v).1 = (W q).1 + 1)) ∧
    (l.foldl (fun v q => gst1 v q (W q)) v).2.2 % 1000003 = (v.2.2 + (l.map (fun q => (W q).2.2)).sum) % 1000003
  | [], v, _ => ⟨⟨Int.le_refl _, fun q hq => by simp at hq, Or.inl rfl⟩, ⟨fun h => ⟨h, Int.le_refl _⟩, fun q hq => by simp at hq, Or.inl rfl⟩, by simp⟩
  | q :: l, v, hW => by
    obtain ⟨⟨a1, a2, a3⟩, ⟨b1, b2, b3⟩, c⟩ := gst_fold l (gst1 v q (W q)) (fun r hr => hW r (List.mem_cons_of_mem _ hr))
    rw [List.foldl_cons]
    generalize l.foldl (fun v q => gst1 v q (W q)) (gst1 v q (W q)) = r at *
    have hq := hW q List.mem_cons_self
    have g1 : (gst1 v q (W q)).2.1 = if (W q).1 = -2 then v.2.1 else if v.2.1 < (W q).2.1 + q.2 then (W q).2.1 + q.2 else v.2.1 := rfl
    have g2 : (gst1 v q (W q)).1 = if (W q).1 = -2 then v.1 else if v.1 = -2 ∨ (W q).1 + 1 < v.1 then (W q).1 + 1 else v.1 := rfl
    have g3 : (gst1 v q (W q)).2.2 = (v.2.2 + (W q).2.2) % 1000003 := rfl
    rw [g1] at a1 a3
    rw [g2] at b1 b3
    rw [g3] at c
    refine ⟨⟨?_, fun p hp hp2 => ?_, ?_⟩, ⟨fun h => ?_, fun p hp hp2 => ?_, ?_⟩, ?_⟩
    · split at a1
      · exact a1
      · split at a1 <;> omega
    · rcases List.mem_cons.mp hp with h | h
      · subst h
        rw [if_neg hp2] at a1
        split at a1 <;> omega
      · exact a2 p h hp2
    · rcases a3 with h | ⟨p, h1, h2, h3⟩
      · split at h
        · exact Or.inl h
        · next h0 =>
          split at h
          · exact Or.inr ⟨q, List.mem_cons_self, h0, h⟩
          · exact Or.inl h
      · exact Or.inr ⟨p, List.mem_cons_of_mem _ h1, h2, h3⟩
    · split at b1
      · exact b1 h
      · next h0 =>
        have h0' : 0 ≤ (W q).1 := hq.resolve_left h0
        split at b1
        · next h4 =>
          have := b1 (by omega)
          rcases h4 with h4 | h4
          · exact absurd h4 h
          · exact ⟨this.1, by omega⟩
        · exact b1 h
    · rcases List.mem_cons.mp hp with h | h
      · subst h
        have h0' := hq.resolve_left hp2
        rw [if_neg hp2] at b1
        split at b1
        · exact b1 (by omega)
        · next h4 =>
          have h5 : v.1 ≠ -2 := fun e => h4 (Or.inl e)
          have h6 : ¬ (W p).1 + 1 < v.1 := fun e => h4 (Or.inr e)
          have := b1 h5
          exact ⟨this.1, by omega⟩
      · exact b2 p h hp2
    · rcases b3 with h | ⟨p, h1, h2, h3⟩
      · split at h
        · exact Or.inl h
        · next h0 =>
          split at h
          · exact Or.inr ⟨q, List.mem_cons_self, h0, h⟩
          · exact Or.inl h
      · exact Or.inr ⟨p, List.mem_cons_of_mem _ h1, h2, h3⟩
    · rw [c, List.map_cons, List.sum_cons, Int.emod_add_emod, Int.add_assoc]
/-- the best sum from a place on; or the fewest pieces, each as -1 -/
def bw (ws : List wd) (u : List Int) (by_ : Bool) (i : Nat) : Option Int := if (PV ws u i).1 = -2 then none else some (if by_ = true then (PV ws u i).2.1 else - (PV ws u i).1)
def val (by_ : Bool) (n : Int) : Int := if by_ = true then n else -1
theorem PV_tb (hok : ok ws) {k : Nat} (h : k ≤ u.length) : tbd (u.length - k) (PV ws u k) := PV_bd hok.1 u _ k (Nat.le_refl _) h
theorem bw_end (by_ : Bool) : bw ws u by_ u.length = some 0 := by
  unfold bw
  rw [PV_end, if_neg (by decide)]
  cases by_ <;> rfl
theorem bw_R1 (hok : ok ws) (by_ : Bool) {i L : Nat} {n y : Int} (hi : i < u.length) (hp : pcw ws u i L = some n) (hy : bw ws u by_ (i + L) = some y) : ∃ T, bw ws u by_ i = some T ∧ val by_ n + y ≤ T := by
  obtain ⟨q, hq, rfl, rfl⟩ := (pcw_iff hok).mp hp
  have hW : ∀ r ∈ stw ws u i, (PV ws u (i + r.1.length)).1 = -2 ∨ 0 ≤ (PV ws u (i + r.1.length)).1 := fun r hr => (PV_tb hok (stw_len hok.1 hr).2.1).2.2.2.1
  obtain ⟨⟨a1, a2, a3⟩, ⟨b1, b2, b3⟩, _⟩ := gst_fold (W := fun q => PV ws u (i + q.1.length)) (stw ws u i) (-2, -2, 0) hW
  rw [← PV_step hok.1 hi] at a1 a2 a3 b1 b2 b3
  unfold bw at hy ⊢
  split at hy
  · simp at hy
  · next c =>
    injection hy with hy
    have h1 := b2 q hq c
    have h2 := a2 q hq c
    rw [if_neg h1.1]
    refine ⟨_, rfl, ?_⟩
    unfold val
    cases by_
    · simp only [Bool.false_eq_true, if_false] at hy ⊢
      omega
    · simp only [if_true] at hy ⊢
      omega
theorem bw_R2 (hok : ok ws) (by_ : Bool) {i : Nat} {T : Int} (hi : i < u.length) (hT : bw ws u by_ i = some T) : ∃ L n y, pcw ws u i L = some n ∧ bw ws u by_ (i + L) = some y ∧ T = val by_ n + y := by
  have hW : ∀ r ∈ stw ws u i, (PV ws u (i + r.1.length)).1 = -2 ∨ 0 ≤ (PV ws u (i + r.1.length)).1 := fun r hr => (PV_tb hok (stw_len hok.1 hr).2.1).2.2.2.1
  obtain ⟨⟨a1, a2, a3⟩, ⟨b1, b2, b3⟩, _⟩ := gst_fold (W := fun q => PV ws u (i + q.1.length)) (stw ws u i) (-2, -2, 0) hW
  rw [← PV_step hok.1 hi] at a1 a2 a3 b1 b2 b3
  dsimp only at a1 a2 a3 b1 b2 b3
  unfold bw at hT
  split at hT
  · simp at hT
  · next c =>
    injection hT with hT
    obtain ⟨q, hq, hq2, hq3⟩ := b3.resolve_left c
    have mk : ∀ r ∈ stw ws u i, (PV ws u (i + r.1.length)).1 ≠ -2 → T = val by_ r.2 + (if by_ = true then (PV ws u (i + r.1.length)).2.1 else - (PV ws u (i + r.1.length)).1) → ∃ L n y, pcw ws u i L = some n ∧ bw ws u by_ (i + L) = some y ∧ T = val by_ n + y := by
      intro r hr hr2 e
      refine ⟨r.1.length, r.2, _, (pcw_iff hok).mpr ⟨r, hr, rfl, rfl⟩, ?_, e⟩
      unfold bw
      rw [if_neg hr2]
    cases by_
    · refine mk q hq hq2 ?_
      unfold val
      simp only [Bool.false_eq_true, if_false] at hT ⊢
      omega
    · have hne : (PV ws u i).2.1 ≠ -2 := by
        have h1 := a2 q hq hq2
        have h2 := (hW q hq).resolve_left hq2
        have h3 := (PV_tb hok (stw_len hok.1 hq).2.1).2.2.2.2.2 h2
        have h4 := (hok.1 q (stw_mem.mp hq).1).2.2.2.1
        omega
      obtain ⟨r, hr, hr2, hr3⟩ := a3.resolve_left hne
      refine mk r hr hr2 ?_
      unfold val
      simp only [if_true] at hT ⊢
      omega
theorem bw_bd (hok : ok ws) (by_ : Bool) {i : Nat} {T : Int} (hi : i ≤ u.length) (h : bw ws u by_ i = some T) : -(u.length : Int) ≤ T ∧ T ≤ 999999 * u.length := by
  obtain ⟨h1, h2, h3, h4, h5, h6⟩ := PV_tb hok hi
  unfold bw at h
  split at h
  · simp at h
  · next c =>
    injection h with h
    have := h6 (h4.resolve_left c)
    have h0 := h4.resolve_left c
    cases by_
    · simp only [Bool.false_eq_true, if_false] at h
      omega
    · simp only [if_true] at h
      omega
/-- where the class' table is too low to be a sum -/
def MIN : Int := -61
/-- what the table's stretch from place i on, and the pieces from i that are at least L letters long, still promise -/
def cnd2 (ws : List wd) (u : List Int) (by_ : Bool) (f : Nat → Int) (i L : Nat) (x : Int) : Prop := (∃ j y, i < j ∧ j ≤ u.length ∧ f j ≠ MIN ∧ bw ws u by_ j = some y ∧ x = f j + y) ∨ (f i ≠ MIN ∧ ∃ L' n y, L ≤ L' ∧ pcw ws u i L' = some n ∧ bw ws u by_ (i + L') = some y ∧ x = f i + val by_ n + y)
def mxI (ws : List wd) (u : List Int) (by_ : Bool) (C : Int → Prop) : Prop := (∀ x, C x → ∃ T, bw ws u by_ 0 = some T ∧ x ≤ T) ∧ ∀ T, bw ws u by_ 0 = some T → C T
def fOK (f : Nat → Int) : Prop := ∀ j, j ≤ 60 → f j = MIN ∨ (-(j : Int) ≤ f j ∧ f j ≤ 999999 * j)
/-- what the table's stretch from place i on promises -/
def cnd1 (ws : List wd) (u : List Int) (by_ : Bool) (f : Nat → Int) (i : Nat) (x : Int) : Prop := ∃ j y, i ≤ j ∧ j ≤ u.length ∧ f j ≠ MIN ∧ bw ws u by_ j = some y ∧ x = f j + y
theorem mx_in (hok : ok ws) {by_ : Bool} {f : Nat → Int} {i : Nat} (hi : i < u.length) (h : mxI ws u by_ (cnd1 ws u by_ f i)) : mxI ws u by_ (cnd2 ws u by_ f i 1) := by
  obtain ⟨h1, h2⟩ := h
  constructor
  · rintro x (⟨j, y, a1, a2, a3, a4, a5⟩ | ⟨a1, L, n, y, a2, a3, a4, a5⟩)
    · exact h1 x ⟨j, y, by omega, a2, a3, a4, a5⟩
    · obtain ⟨T, b1, b2⟩ := bw_R1 hok by_ hi a3 a4
      obtain ⟨T', c1, c2⟩ := h1 (f i + T) ⟨i, T, Nat.le_refl _, by omega, a1, b1, rfl⟩
      exact ⟨T', c1, by omega⟩
  · intro T hT
    obtain ⟨j, y, a1, a2, a3, a4, a5⟩ := h2 T hT
    by_cases c : j = i
    · subst c
      obtain ⟨L, n, y', b1, b2, b3⟩ := bw_R2 hok by_ hi a4
      exact Or.inr ⟨a3, L, n, y', (pcw_len hok b1).1.1, b1, b2, by omega⟩
    · exact Or.inl ⟨j, y, by omega, a2, a3, a4, a5⟩
theorem mx_out (hok : ok ws) {by_ : Bool} {f : Nat → Int} {i L : Nat} (hL : 10 < L ∨ f i = MIN) (h : mxI ws u by_ (cnd2 ws u by_ f i L)) : mxI ws u by_ (cnd1 ws u by_ f (i + 1)) := by
  obtain ⟨h1, h2⟩ := h
  constructor
  · rintro x ⟨j, y, a1, a2, a3, a4, a5⟩
    exact h1 x (Or.inl ⟨j, y, by omega, a2, a3, a4, a5⟩)
  · intro T hT
    rcases h2 T hT with ⟨j, y, a1, a2, a3, a4, a5⟩ | ⟨a1, L', n, y, a2, a3, a4, a5⟩
    · exact ⟨j, y, by omega, a2, a3, a4, a5⟩
    · have := (pcw_len hok a3).1.2
      rcases hL with hL | hL
      · omega
      · exact absurd hL a1
theorem mx_skip {by_ : Bool} {f : Nat → Int} {i L : Nat} (hn : pcw ws u i L = none) (h : mxI ws u by_ (cnd2 ws u by_ f i L)) : mxI ws u by_ (cnd2 ws u by_ f i (L + 1)) := by
  obtain ⟨h1, h2⟩ := h
  constructor
  · rintro x (a | ⟨a1, L', n, y, a2, a3⟩)
    · exact h1 x (Or.inl a)
    · exact h1 x (Or.inr ⟨a1, L', n, y, by omega, a3⟩)
  · intro T hT
    rcases h2 T hT with a | ⟨a1, L', n, y, a2, a3, a4⟩
    · exact Or.inl a
    · by_cases c : L' = L
      · rw [c, hn] at a3; simp at a3
      · exact Or.inr ⟨a1, L', n, y, by omega, a3, a4⟩
theorem mx_put (hok : ok ws) {by_ : Bool} {f : Nat → Int} {i L : Nat} {n : Int} (hl : u.length ≤ 60) (hf : fOK f) (hi : f i ≠ MIN) (hn : pcw ws u i L = some n) (h : mxI ws u by_ (cnd2 ws u by_ f i L)) : mxI ws u by_ (cnd2 ws u by_ (am_fu f (i + L) (am_max (f (i + L)) (f i + val by_ n))) i (L + 1)) ∧ fOK (am_fu f (i + L) (am_max (f (i + L)) (f i + val by_ n))) := by
  obtain ⟨h1, h2⟩ := h
  have hp := pcw_len hok hn
  have bi := (hf i (by omega)).resolve_left hi
  have hv : -1 ≤ val by_ n ∧ val by_ n ≤ 999999 := by unfold val; split <;> omega
  have bx : -((i + L : Nat) : Int) ≤ f i + val by_ n ∧ f i + val by_ n ≤ 999999 * ((i + L : Nat) : Int) := by omega
  have hM : MIN = -61 := rfl
  generalize hX : f i + val by_ n = X at *
  have bX : X ≠ MIN := by omega
  have hmx : (am_max (f (i + L)) X = X ∧ (f (i + L) = MIN ∨ f (i + L) ≤ X)) ∨ (am_max (f (i + L)) X = f (i + L) ∧ f (i + L) ≠ MIN ∧ X ≤ f (i + L)) := by
    unfold am_max
    rcases hf (i + L) (by omega) with g | g
    · left; rw [g, if_pos (by omega)]; exact ⟨rfl, Or.inl rfl⟩
    · split
      · left; exact ⟨rfl, Or.inr (by omega)⟩
      · right; exact ⟨rfl, by omega, by omega⟩
  generalize hY : am_max (f (i + L)) X = Y at *
  have gi : am_fu f (i + L) Y i = f i := fu_ne (by omega)
  refine ⟨⟨?_, ?_⟩, ?_⟩
  · rintro x (⟨j, y, a1, a2, a3, a4, a5⟩ | ⟨a1, L', m, y, a2, a3, a4, a5⟩)
    · by_cases c : j = i + L
      · rw [c, fu_self] at a3 a5
        rw [c] at a4
        rcases hmx with ⟨m1, _⟩ | ⟨m1, m2, _⟩
        · exact h1 x (Or.inr ⟨hi, L, n, y, Nat.le_refl _, hn, a4, by omega⟩)
        · exact h1 x (Or.inl ⟨i + L, y, by omega, hp.2.1, m2, a4, by omega⟩)
      · rw [fu_ne c] at a3 a5
        exact h1 x (Or.inl ⟨j, y, a1, a2, a3, a4, a5⟩)
    · rw [gi] at a1 a5
      exact h1 x (Or.inr ⟨a1, L', m, y, by omega, a3, a4, a5⟩)
  · intro T hT
    -- what reaches T through place i + L reaches it still
    have thr : ∀ y, bw ws u by_ (i + L) = some y → T ≤ Y + y → cnd2 ws u by_ (am_fu f (i + L) Y) i (L + 1) T := by
      intro y hy hle
      have hub : Y + y ≤ T := by
        have : ∃ T', bw ws u by_ 0 = some T' ∧ Y + y ≤ T' := by
          rcases hmx with ⟨m1, _⟩ | ⟨m1, m2, _⟩
          · exact h1 (Y + y) (Or.inr ⟨hi, L, n, y, Nat.le_refl _, hn, hy, by omega⟩)
          · exact h1 (Y + y) (Or.inl ⟨i + L, y, by omega, hp.2.1, m2, hy, by omega⟩)
        obtain ⟨T', b1, b2⟩ := this
        rw [hT] at b1
        injection b1 with b1
        omega
      refine Or.inl ⟨i + L, y, by omega, hp.2.1, ?_, hy, by rw [fu_self]; omega⟩
      rw [fu_self]
      rcases hmx with ⟨m1, _⟩ | ⟨m1, m2, _⟩
      · rw [m1]; exact bX
      · rw [m1]; exact m2
    have hXY : X ≤ Y := by rcases hmx with ⟨m1, _⟩ | ⟨m1, _, m3⟩ <;> omega
    rcases h2 T hT with ⟨j, y, a1, a2, a3, a4, a5⟩ | ⟨a1, L', m, y, a2, a3, a4, a5⟩
    · by_cases c : j = i + L
      · rw [c] at a3 a4 a5
        refine thr y a4 ?_
        rcases hmx with ⟨m1, m2⟩ | ⟨m1, _⟩
        · rcases m2 with m2 | m2
          · exact absurd m2 a3
          · omega
        · omega
      · exact Or.inl ⟨j, y, a1, a2, by rw [fu_ne c]; exact a3, a4, by rw [fu_ne c]; exact a5⟩
    · by_cases c : L' = L
      · rw [c] at a3 a4
        rw [hn] at a3
        injection a3 with a3
        refine thr y a4 ?_
        rw [← a3] at a5
        omega
      · exact Or.inr ⟨by rw [gi]; exact a1, L', m, y, by omega, a3, a4, by rw [gi]; exact a5⟩
  · intro j hj
    by_cases c : j = i + L
    · rw [c, fu_self]
      rcases hmx with ⟨m1, _⟩ | ⟨m1, m2, _⟩
      · right; rw [m1]; exact bx
      · rw [m1]; exact hf (i + L) (by omega)
    · rw [fu_ne c]; exact hf j hj
/-- the end: what the last place of the table has -/
theorem mx_end {by_ : Bool} {f : Nat → Int} (h : mxI ws u by_ (cnd1 ws u by_ f u.length)) : (f u.length = MIN ∧ bw ws u by_ 0 = none) ∨ (f u.length ≠ MIN ∧ bw ws u by_ 0 = some (f u.length)) := by
  obtain ⟨h1, h2⟩ := h
  by_cases c : f u.length = MIN
  · left
    refine ⟨c, ?_⟩
    cases e : bw ws u by_ 0 with
    | none => rfl
    | some T =>
      obtain ⟨j, y, a1, a2, a3, _⟩ := h2 T e
      have : j = u.length := by omega
      rw [this] at a3
      exact absurd c a3
  · right
    refine ⟨c, ?_⟩
    obtain ⟨T, b1, b2⟩ := h1 (f u.length + 0) ⟨u.length, 0, Nat.le_refl _, Nat.le_refl _, c, bw_end by_, rfl⟩
    obtain ⟨j, y, a1, a2, a3, a4, a5⟩ := h2 T b1
    obtain rfl : j = u.length := by omega
    rw [bw_end] at a4
    injection a4 with a4
    rw [b1]
    congr 1
    omega
theorem mx_start (by_ : Bool) {f : Nat → Int} (h0 : f 0 = 0) (hf : ∀ j, j ≠ 0 → j ≤ u.length → f j = MIN) : mxI ws u by_ (cnd1 ws u by_ f 0) := by
  constructor
  · rintro x ⟨j, y, a1, a2, a3, a4, a5⟩
    by_cases c : j = 0
    · subst c
      exact ⟨y, a4, by omega⟩
    · exact absurd (hf j c a2) a3
  · intro T hT
    exact ⟨0, T, Nat.le_refl _, Nat.zero_le _, by rw [h0]; decide, hT, by omega⟩
/-- ways -/
def wy2 (ws : List wd) (u : List Int) (i : Nat) : Int := (PV ws u i).2.2
def wv (ws : List wd) (u : List Int) (i L : Nat) : Int := if pcw ws u i L = none then 0 else wy2 ws u (i + L)
theorem fmap_sum {α β : Type} {F : α → Option β} {G : β → Int} : ∀ l : List α, ((l.filterMap F).map G).sum = (l.map (fun x => match F x with
    | none => 0
    | some y => G y)).sum
  | [] => rfl
  | x :: l => by
    have ih := fmap_sum (F := F) (G := G) l
    rw [List.map_cons, List.sum_cons, ← ih]
    cases e : F x with
    | none => rw [List.filterMap_cons_none e]; simp
    | some y => rw [List.filterMap_cons_some e, List.map_cons, List.sum_cons]
theorem stw_fm (hok : ok ws) (i : Nat) : stw ws u i = (List.range' 1 10).filterMap (fun L => (pcw ws u i L).map (fun n => ((u.drop i).take L, n))) := by
  refine so_ext (List.Pairwise.filter _ hok.2.1) ?_ (fun x => ?_)
  · unfold so
    rw [List.pairwise_filterMap]
    refine List.Pairwise.imp_of_mem ?_ List.pairwise_lt_range'
    intro a b _ _ hab x hx y hy
    rw [Option.map_eq_some_iff] at hx hy
    obtain ⟨n, hn, rfl⟩ := hx
    obtain ⟨m, hm, rfl⟩ := hy
    have h1 := pcw_len hok hm
    refine pf_lt _ _ (List.take_prefix_take_left (by omega)) (fun e => ?_)
    have := congrArg List.length e
    rw [List.length_take, List.length_take, List.length_drop] at this
    omega
  · rw [List.mem_filterMap]
    constructor
    · intro hx
      have h1 := stw_len hok.1 hx
      refine ⟨x.1.length, List.mem_range'_1.mpr (by omega), ?_⟩
      have h2 := (pcw_iff (u := u) (i := i) (L := x.1.length) (n := x.2) hok).mpr ⟨x, hx, rfl, rfl⟩
      rw [h2, Option.map_some, ← List.prefix_iff_eq_take.mp (stw_mem.mp hx).2]
    · rintro ⟨L, _, h⟩
      rw [Option.map_eq_some_iff] at h
      obtain ⟨n, hn, rfl⟩ := h
      unfold pcw at hn
      split at hn
      · exact stw_mem.mpr ⟨(nu_mem hok.2.1).mp hn, List.take_prefix _ _⟩
      · simp at hn
theorem wy2_step (hok : ok ws) {i : Nat} (hi : i < u.length) : wy2 ws u i % 1000003 = ((List.range' 1 10).map (wv ws u i)).sum % 1000003 := by
  have hW : ∀ r ∈ stw ws u i, (PV ws u (i + r.1.length)).1 = -2 ∨ 0 ≤ (PV ws u (i + r.1.length)).1 := fun r hr => (PV_tb hok (stw_len hok.1 hr).2.1).2.2.2.1
  have h := (gst_fold (W := fun q => PV ws u (i + q.1.length)) (stw ws u i) (-2, -2, 0) hW).2.2
  rw [← PV_step hok.1 hi] at h
  unfold wy2
  rw [h]
  dsimp only
  rw [Int.zero_add, stw_fm hok, fmap_sum]
  congr 2
  refine List.map_congr_left (fun L hL => ?_)
  unfold wv wy2
  cases e : pcw ws u i L with
  | none => rfl
  | some n =>
    have h1 := pcw_len hok e
    have h2 : ((u.drop i).take L).length = L := by rw [List.length_take, List.length_drop]; omega
    simp [h2]
/-- the table's stretch, each place as often as it goes on -/
def smV (ws : List wd) (u : List Int) (f : Nat → Int) (a k : Nat) : Int := ((List.range' a k).map (fun j => f j * wy2 ws u j)).sum
theorem smV_s {f : Nat → Int} {a k : Nat} : smV ws u f a (k + 1) = f a * wy2 ws u a + smV ws u f (a + 1) k := by
  unfold smV
  rw [List.range'_succ, List.map_cons, List.sum_cons]
theorem smV_fu {f : Nat → Int} {x : Int} : ∀ (k a j : Nat), a ≤ j → j < a + k → smV ws u (am_fu f j x) a k = smV ws u f a k + (x - f j) * wy2 ws u j
  | 0, a, j, h1, h2 => by omega
  | k + 1, a, j, h1, h2 => by
    rw [smV_s, smV_s]
    by_cases c : j = a
    · subst c
      have : smV ws u (am_fu f j x) (j + 1) k = smV ws u f (j + 1) k := by
        unfold smV
        congr 1
        refine List.map_congr_left (fun y hy => ?_)
        have := List.mem_range'_1.mp hy
        rw [fu_ne (by omega)]
      rw [fu_self, this, Int.sub_mul]
      omega
    · rw [fu_ne (fun e => c e.symm), smV_fu k (a + 1) j (by omega) (by omega)]
      omega
def wyI (ws : List wd) (u : List Int) (f : Nat → Int) (i : Nat) : Prop := smV ws u f i (u.length + 1 - i) % 1000003 = wy2 ws u 0 % 1000003
def wyJ (ws : List wd) (u : List Int) (f : Nat → Int) (i L : Nat) : Prop := (smV ws u f (i + 1) (u.length - i) + f i * ((List.range' L (11 - L)).map (wv ws u i)).sum) % 1000003 = wy2 ws u 0 % 1000003
theorem wy_in (hok : ok ws) {f : Nat → Int} {i : Nat} (hi : i < u.length) (h : wyI ws u f i) : wyJ ws u f i 1 := by
  unfold wyI at h
  unfold wyJ
  rw [show u.length + 1 - i = (u.length - i) + 1 by omega, smV_s] at h
  rw [← h, Int.add_comm (f i * wy2 ws u i)]
  have h1 := wy2_step hok hi
  have h2 : (f i * ((List.range' 1 (11 - 1)).map (wv ws u i)).sum) % 1000003 = (f i * wy2 ws u i) % 1000003 := by
    rw [Int.mul_emod, show 11 - 1 = 10 from rfl, ← h1, ← Int.mul_emod]
  rw [Int.add_emod, h2, ← Int.add_emod]
theorem wy_out {f : Nat → Int} {i L : Nat} (hL : 10 < L ∨ f i = 0) (hi : i < u.length) (h : wyJ ws u f i L) : wyI ws u f (i + 1) := by
  unfold wyJ at h
  unfold wyI
  have h0 : f i * ((List.range' L (11 - L)).map (wv ws u i)).sum = 0 := by
    rcases hL with hL | hL
    · rw [show 11 - L = 0 by omega]; simp
    · rw [hL, Int.zero_mul]
  rw [h0, Int.add_zero] at h
  rw [show u.length + 1 - (i + 1) = u.length - i by omega]
  exact h
theorem wyJ_s {f : Nat → Int} {i L : Nat} (hL : L ≤ 10) (h : wyJ ws u f i L) : (smV ws u f (i + 1) (u.length - i) + f i * (wv ws u i L + ((List.range' (L + 1) (11 - (L + 1))).map (wv ws u i)).sum)) % 1000003 = wy2 ws u 0 % 1000003 := by
  unfold wyJ at h
  rw [show 11 - L = (11 - (L + 1)) + 1 by omega, List.range'_succ, List.map_cons, List.sum_cons] at h
  exact h
theorem wy_skip {f : Nat → Int} {i L : Nat} (hL : L ≤ 10) (hn : pcw ws u i L = none) (h : wyJ ws u f i L) : wyJ ws u f i (L + 1) := by
  have h1 := wyJ_s hL h
  have h2 : wv ws u i L = 0 := by unfold wv; rw [if_pos hn]
  rw [h2, Int.zero_add] at h1
  exact h1
theorem wy_put {f : Nat → Int} {i L : Nat} (hL : 1 ≤ L ∧ L ≤ 10) (hl : i + L ≤ u.length) (hn : pcw ws u i L ≠ none) (h : wyJ ws u f i L) : wyJ ws u (am_fu f (i + L) ((f (i + L) + f i) % 1000003)) i (L + 1) := by
  have h1 := wyJ_s hL.2 h
  have h2 : wv ws u i L = wy2 ws u (i + L) := by unfold wv; rw [if_neg hn]
  rw [h2] at h1
  unfold wyJ
  rw [smV_fu _ _ _ (by omega) (by omega), fu_ne (show i ≠ i + L by omega)]
  rw [← h1]
  generalize ((List.range' (L + 1) (11 - (L + 1))).map (wv ws u i)).sum = A
  generalize smV ws u f (i + 1) (u.length - i) = B
  generalize wy2 ws u (i + L) = V
  generalize f (i + L) = x
  generalize f i = y
  -- B + ((x + y) % p - x) * V + y * A  and  B + y * (V + A)
  have e : (x + y) % 1000003 = x + y - 1000003 * ((x + y) / 1000003) := by omega
  rw [e]
  generalize (x + y) / 1000003 = k
  have e2 : B + (x + y - 1000003 * k - x) * V + y * A = B + y * (V + A) + 1000003 * (- (k * V)) := by
    rw [show x + y - 1000003 * k - x = y - 1000003 * k by omega, Int.sub_mul, Int.mul_add, Int.mul_neg, Int.mul_assoc]
    omega
  rw [e2, Int.add_mul_emod_self_left]
theorem wy_start {f : Nat → Int} (h0 : f 0 = 1) (hf : ∀ j, j ≠ 0 → j ≤ u.length → f j = 0) : wyI ws u f 0 := by
  unfold wyI
  rw [Nat.sub_zero, smV_s, h0, Int.one_mul]
  have : smV ws u f (0 + 1) u.length = 0 := by
    unfold smV
    have hz : (List.range' (0 + 1) u.length).map (fun j => f j * wy2 ws u j) = (List.range' (0 + 1) u.length).map (fun _ => 0) := by
      refine List.map_congr_left (fun j hj => ?_)
      have := List.mem_range'_1.mp hj
      rw [hf j (by omega) (by omega), Int.zero_mul]
    rw [hz]
    have key : ∀ l : List Nat, (l.map (fun _ => (0 : Int))).sum = 0 := by
      intro l
      induction l with
      | nil => rfl
      | cons a l ih => rw [List.map_cons, List.sum_cons, ih]; rfl
    exact key _
  rw [this, Int.add_zero]
theorem wy_end (hok : ok ws) {f : Nat → Int} (hf : 0 ≤ f u.length ∧ f u.length < 1000003) (h : wyI ws u f u.length) : f u.length = wy2 ws u 0 := by
  unfold wyI at h
  rw [show u.length + 1 - u.length = 0 + 1 by omega, smV_s] at h
  have h1 : wy2 ws u u.length = 1 := by unfold wy2; rw [PV_end]
  have h2 : smV ws u f (u.length + 1) 0 = 0 := rfl
  rw [h1, h2, Int.mul_one, Int.add_zero] at h
  have h3 := (PV_tb hok (Nat.zero_le u.length)).2.2.1
  have h4 : wy2 ws u 0 = (PV ws u 0).2.2 := rfl
  rw [Int.emod_eq_of_lt hf.1 hf.2, Int.emod_eq_of_lt (by omega) (by omega)] at h
  exact h
/-- the longest piece -/
theorem la_spec (hok : ok ws) (i : Nat) : (la ws u i = 0 ∧ ∀ L, pcw ws u i L = none) ∨ ∃ L : Nat, la ws u i = (L : Int) ∧ pcw ws u i L ≠ none ∧ ∀ L', L < L' → pcw ws u i L' = none := by
  have key : ∀ (l : List wd) (b : Int), b ≤ l.foldl (fun b q => am_max b (q.1.length : Int)) b ∧ (∀ q ∈ l, (q.1.length : Int) ≤ l.foldl (fun b q => am_max b (q.1.length : Int)) b) ∧ (l.foldl (fun b q => am_max b (q.1.length : Int)) b = b ∨ ∃ q ∈ l, l.foldl (fun b q => am_max b (q.1.length : Int)) b = (q.1.length : Int)) := by
    intro l
    induction l with
    | nil => intro b; exact ⟨Int.le_refl _, fun q hq => by simp at hq, Or.inl rfl⟩
    | cons q l ih =>
      intro b
      obtain ⟨i1, i2, i3⟩ := ih (am_max b (q.1.length : Int))
      rw [List.foldl_cons]
      generalize l.foldl (fun b q => am_max b (q.1.length : Int)) (am_max b (q.1.length : Int)) = r at *
      have hm : b ≤ am_max b (q.1.length : Int) ∧ (q.1.length : Int) ≤ am_max b (q.1.length : Int) ∧ (am_max b (q.1.length : Int) = b ∨ am_max b (q.1.length : Int) = (q.1.length : Int)) := by unfold am_max; split <;> omega
      refine ⟨by omega, fun p hp => ?_, ?_⟩
      · rcases List.mem_cons.mp hp with h | h
        · rw [h]; omega
        · exact i2 p h
      · rcases i3 with h | ⟨p, h1, h2⟩
        · rcases hm.2.2 with g | g
          · exact Or.inl (by omega)
          · exact Or.inr ⟨q, List.mem_cons_self, by omega⟩
        · exact Or.inr ⟨p, List.mem_cons_of_mem _ h1, h2⟩
  obtain ⟨k1, k2, k3⟩ := key (stw ws u i) 0
  have hla : la ws u i = (stw ws u i).foldl (fun b q => am_max b (q.1.length : Int)) 0 := rfl
  rw [← hla] at k1 k2 k3
  have none_of : ∀ L : Nat, la ws u i < (L : Int) → pcw ws u i L = none := by
    intro L hL
    cases e : pcw ws u i L with
    | none => rfl
    | some n =>
      obtain ⟨q, hq, h1, _⟩ := (pcw_iff hok).mp e
      have := k2 q hq
      omega
  by_cases c : la ws u i = 0
  · left
    refine ⟨c, fun L => ?_⟩
    cases e : pcw ws u i L with
    | none => rfl
    | some n =>
      have h1 := (pcw_len hok e).1.1
      have := none_of L (by omega)
      rw [e] at this
      simp at this
  · right
    obtain ⟨q, hq, h1⟩ := k3.resolve_left c
    refine ⟨q.1.length, h1, ?_, fun L' hL' => none_of L' (by omega)⟩
    have h2 := (pcw_iff (u := u) (i := i) (L := q.1.length) (n := q.2) hok).mpr ⟨q, hq, rfl, rfl⟩
    rw [h2]
    simp
end CM
