/-! what the small machine comes to, the real one comes to (by wip/whole/sim5.py) -/
def am_go (d M : Nat) (es : List am_I) (ls st : List am_V) (h : am_H) : am_O := .inr (.inl (d, M, es, ls, st, h))
section AMP
variable {d M : Nat} {es : List am_I} {ls st : List am_V} {h : am_H} {o : am_O} {i pc : Nat}
theorem am_ldI_sp (hp : am_ldI d M es ls st h i = some o) : ∃ x, ls[i]? = some (.inl x) ∧ o = am_go d M es ls (.inl x :: st) h := by
  unfold am_ldI at hp
  split at hp
  next x hx => cases hp; exact ⟨x, hx, rfl⟩
  next => cases hp
theorem am_ldL_sp (hp : am_ldL d M es ls st h i = some o) : ∃ x, ls[i]? = some (.inr (.inl x)) ∧ o = am_go d M es ls (.inr (.inl x) :: st) h := by
  unfold am_ldL at hp
  split at hp
  next x hx => cases hp; exact ⟨x, hx, rfl⟩
  next => cases hp
theorem am_ldR_sp (hp : am_ldR d M es ls st h i = some o) : ∃ x, ls[i]? = some (.inr (.inr (some x))) ∧ o = am_go d M es ls (.inr (.inr (some x)) :: st) h := by
  unfold am_ldR at hp
  split at hp
  next x hx => cases hp; exact ⟨x, hx, rfl⟩
  next => cases hp
theorem am_toI_sp (hp : am_toI d M es ls st h i = some o) : ∃ x st', st = .inl x :: st' ∧ i < ls.length ∧ o = am_go d M es (am_st1 ls i (.inl x)) st' h := by
  unfold am_toI at hp
  split at hp
  next x st' =>
    split at hp
    next hl => cases hp; exact ⟨x, st', rfl, hl, rfl⟩
    next => cases hp
  next => cases hp
theorem am_toR_sp (hp : am_toR d M es ls st h i = some o) : ∃ x st', st = .inr (.inr (some x)) :: st' ∧ i < ls.length ∧ o = am_go d M es (am_st1 ls i (.inr (.inr (some x)))) st' h := by
  unfold am_toR at hp
  split at hp
  next x st' =>
    split at hp
    next hl => cases hp; exact ⟨x, st', rfl, hl, rfl⟩
    next => cases hp
  next => cases hp
theorem am_toL_sp (hp : am_toL d M es ls st h i = some o) : ∃ x st', st = .inr (.inl x) :: st' ∧ i + 1 < ls.length ∧ o = am_go d M es (am_st2 ls i (.inr (.inl x))) st' h := by
  unfold am_toL at hp
  split at hp
  next x st' =>
    split at hp
    next hl => cases hp; exact ⟨x, st', rfl, hl, rfl⟩
    next => cases hp
  next => cases hp
theorem am_i2_sp {f : Int → Int → Int} (hp : am_i2 d M es ls st h f = some o) : ∃ x y st', st = .inl y :: .inl x :: st' ∧ o = am_go d M es ls (.inl (f x y) :: st') h := by
  unfold am_i2 at hp
  split at hp
  next => cases hp; exact ⟨_, _, _, rfl, rfl⟩
  next => cases hp
theorem am_dv_sp {f : Int → Int → Int} (hp : am_dv d M es ls st h f = some o) : ∃ x y st', st = .inl y :: .inl x :: st' ∧ ¬ y = 0 ∧ o = am_go d M es ls (.inl (f x y) :: st') h := by
  unfold am_dv at hp
  split at hp
  next =>
    split at hp
    next => cases hp
    next hc => cases hp; exact ⟨_, _, _, rfl, hc, rfl⟩
  next => cases hp
theorem am_i1_sp {f : Int → am_V} (hp : am_i1 d M es ls st h f = some o) : ∃ x st', st = .inl x :: st' ∧ o = am_go d M es ls (f x :: st') h := by
  unfold am_i1 at hp
  split at hp
  next => cases hp; exact ⟨_, _, rfl, rfl⟩
  next => cases hp
theorem am_l1_sp {f : Int → am_V} (hp : am_l1 d M es ls st h f = some o) : ∃ x st', st = .inr (.inl x) :: st' ∧ o = am_go d M es ls (f x :: st') h := by
  unfold am_l1 at hp
  split at hp
  next => cases hp; exact ⟨_, _, rfl, rfl⟩
  next => cases hp
theorem am_l2_sp {f : Int → Int → am_V} (hp : am_l2 d M es ls st h f = some o) : ∃ x y st', st = .inr (.inl y) :: .inr (.inl x) :: st' ∧ o = am_go d M es ls (f x y :: st') h := by
  unfold am_l2 at hp
  split at hp
  next => cases hp; exact ⟨_, _, _, rfl, rfl⟩
  next => cases hp
theorem am_li_sp {f : Int → Int → Int} (hp : am_li d M es ls st h f = some o) : ∃ x y st', st = .inl y :: .inr (.inl x) :: st' ∧ o = am_go d M es ls (.inr (.inl (f x y)) :: st') h := by
  unfold am_li at hp
  split at hp
  next => cases hp; exact ⟨_, _, _, rfl, rfl⟩
  next => cases hp
theorem am_bind {α β : Type} {a : Option α} {f : α → Option β} {y : β} (h : a.bind f = some y) : ∃ x, a = some x ∧ f x = some y := by
  cases a with
  | none => cases h
  | some x => exact ⟨x, rfl, h⟩
theorem am_gf_sp {os : List Nat} (hp : am_gf d M es ls st h os = some o) : ∃ ci k t r a st', os = ci :: k :: t :: r ∧ st = .inr (.inr (some a)) :: st' ∧ ∃ fs v, h.2 a = .inr (ci, fs) ∧ fs[k]? = some v ∧ o = am_go d M es ls (v :: st') h := by
  unfold am_gf at hp
  split at hp
  next ci k t r a st' =>
    refine ⟨ci, k, t, r, a, st', rfl, rfl, ?_⟩
    split at hp
    next =>
      obtain ⟨q, h1, h2⟩ := am_bind hp
      obtain ⟨fs, h3, h4⟩ := am_gR_sp h1
      cases h2
      exact ⟨fs, _, h3, h4, rfl⟩
    next =>
      obtain ⟨q, h1, h2⟩ := am_bind hp
      obtain ⟨fs, h3, h4⟩ := am_gI_sp h1
      cases h2
      exact ⟨fs, _, h3, h4, rfl⟩
  next => cases hp
theorem am_pf_sp {os : List Nat} (hp : am_pf d M es ls st h os = some o) : ∃ ci k t r a v st' h', os = ci :: k :: t :: r ∧ st = v :: .inr (.inr (some a)) :: st' ∧ ((∃ x, v = .inl x ∧ (t = 0 ∨ (t = 1 ∧ 0 ≤ x ∧ x < 2))) ∨ (∃ q, v = .inr (.inr (some q)) ∧ t = 2)) ∧ am_p h a ci k v = some h' ∧ o = am_go d M es ls st' h' := by
  unfold am_pf at hp
  split at hp
  next ci k t r q a st' =>
    split at hp
    next ht =>
      obtain ⟨h', h1, h2⟩ := am_bind hp
      cases h2
      exact ⟨ci, k, t, r, a, _, st', h', rfl, rfl, Or.inr ⟨q, rfl, ht⟩, h1, rfl⟩
    next => cases hp
  next ci k t r x a st' =>
    split at hp
    next ht =>
      obtain ⟨h', h1, h2⟩ := am_bind hp
      cases h2
      exact ⟨ci, k, t, r, a, _, st', h', rfl, rfl, Or.inl ⟨x, rfl, ht⟩, h1, rfl⟩
    next => cases hp
  next => cases hp
theorem am_ai_sp {f : am_H → Nat → Int → Option am_V} (hp : am_ai d M es ls st h f = some o) : ∃ i a st' v, st = .inl i :: .inr (.inr (some a)) :: st' ∧ f h a i = some v ∧ o = am_go d M es ls (v :: st') h := by
  unfold am_ai at hp
  split at hp
  next i a st' =>
    obtain ⟨v, h1, h2⟩ := am_bind hp
    cases h2
    exact ⟨i, a, st', v, rfl, h1, rfl⟩
  next => cases hp
theorem am_as_sp {f : am_H → Nat → Int → Int → Option am_H} (hp : am_as d M es ls st h f = some o) : ∃ x i a st' h', st = .inl x :: .inl i :: .inr (.inr (some a)) :: st' ∧ f h a i x = some h' ∧ o = am_go d M es ls st' h' := by
  unfold am_as at hp
  split at hp
  next x i a st' =>
    obtain ⟨v, h1, h2⟩ := am_bind hp
    cases h2
    exact ⟨x, i, a, st', v, rfl, h1, rfl⟩
  next => cases hp
theorem am_nwa_sp {t : Nat} (hp : am_nwa d M es ls st h t = some o) : ∃ x st', st = .inl x :: st' ∧ 0 ≤ x ∧ x ≤ 100000 ∧ o = am_go d M es ls (.inr (.inr (some h.1.1)) :: st') (am_push h (am_na t x.toNat)) := by
  unfold am_nwa at hp
  split at hp
  next x st' =>
    split at hp
    next hc => cases hp; exact ⟨x, st', rfl, hc.1, hc.2, rfl⟩
    next => cases hp
  next => cases hp
theorem am_up_h {a : Nat} {E : am_E} : h.1.1 ≤ (am_up h a E).1.1 ∧ h.1.2 ≤ (am_up h a E).1.2 := ⟨Nat.le_refl _, Nat.le_refl _⟩
theorem am_push_h {E : am_E} : h.1.1 ≤ (am_push h E).1.1 ∧ h.1.2 ≤ (am_push h E).1.2 := ⟨Nat.le_succ _, Nat.le_add_right _ _⟩
theorem am_rf_h : h.1.1 ≤ h.1.1 ∧ h.1.2 ≤ h.1.2 := ⟨Nat.le_refl _, Nat.le_refl _⟩
theorem am_map_sp {α : Type} {a : Option α} {f : α → am_V} {v : am_V} (hm : a.map f = some v) : ∃ x, a = some x ∧ v = f x := by
  cases a with
  | none => cases hm
  | some x => exact ⟨x, rfl, (Option.some.inj hm).symm⟩
theorem am_tsw_sp {P : am_P} {df lo hi : Int} {offs : Array Int} (hp : am_tsw P d M pc df lo hi offs ls st h = some o) : ∃ x st', st = .inl x :: st' ∧ (((x < lo ∨ hi < x) ∧ o = am_go d M (am_at (P.1 M).1 ((pc : Int) + df).toNat) ls st' h) ∨ (¬ (x < lo ∨ hi < x) ∧ ∃ off, offs[(x - lo).toNat]? = some off ∧ o = am_go d M (am_at (P.1 M).1 ((pc : Int) + off).toNat) ls st' h)) := by
  unfold am_tsw at hp
  split at hp
  next x st' =>
    refine ⟨x, st', rfl, ?_⟩
    split at hp
    next hc => cases hp; exact Or.inl ⟨hc, rfl⟩
    next hc =>
      split at hp
      next off ho => cases hp; exact Or.inr ⟨hc, off, ho, rfl⟩
      next => cases hp
  next => cases hp
theorem am_ret_sp {t : Nat} {r : am_R} {Y : am_X} (hp : am_ret d M es ls st t r = some Y) : Y = (d, M, es, ls, r.1.toList ++ st, r.2) := by
  obtain ⟨v, h2⟩ := r
  unfold am_ret at hp
  split at hp
  all_goals first
    | (cases hp; rename_i he; cases he; rfl)
    | (cases hp; done)
    | skip
  all_goals (rename_i he; dsimp only at he; subst he; cases hp; rfl)
end AMP
theorem am_okF_pat {own : String} {idx len ci k t : Nat} {r : List Nat} (h : am_okF own idx len (ci :: k :: t :: r) = true) : ∃ w nest, r = [w, nest] := by
  rcases r with _ | ⟨w, _ | ⟨nest, _ | ⟨q, r⟩⟩⟩
  · simp [am_okF] at h
  · simp [am_okF] at h
  · exact ⟨w, nest, rfl⟩
  · simp [am_okF] at h
theorem am_okC_pat0 {own : String} {kind idx len y n t rc : Nat} {r : List Nat} (h : am_okC own kind idx len (0 :: y :: n :: t :: rc :: r) = true) : ∃ vk wl wi ws wini wc, r = [vk, wl, wi, ws, wini, wc] := by
  rcases r with _ | ⟨a1, _ | ⟨a2, _ | ⟨a3, _ | ⟨a4, _ | ⟨a5, _ | ⟨a6, _ | ⟨a7, r⟩⟩⟩⟩⟩⟩⟩
  · simp [am_okC] at h
  · simp [am_okC] at h
  · simp [am_okC] at h
  · simp [am_okC] at h
  · simp [am_okC] at h
  · simp [am_okC] at h
  · exact ⟨a1, a2, a3, a4, a5, a6, rfl⟩
  · simp [am_okC] at h
theorem am_okC_pat1 {own : String} {kind idx len : Nat} {r : List Nat} (h : am_okC own kind idx len (1 :: r) = true) : kind = 4 ∧ ∃ wl wi wc, r = [wl, wi, wc] := by
  rcases r with _ | ⟨a1, _ | ⟨a2, _ | ⟨a3, _ | ⟨a4, r⟩⟩⟩⟩
  · simp [am_okC] at h
  · simp [am_okC] at h
  · simp [am_okC] at h
  · simp only [am_okC, Bool.and_eq_true, beq_iff_eq] at h
    exact ⟨h.1.1.1.2, a1, a2, a3, rfl⟩
  · simp [am_okC] at h
theorem am_okC_pat2 {own : String} {kind idx len q : Nat} (hq : q = 2 ∨ q = 3 ∨ q = 4 ∨ q = 5) {r : List Nat} (h : am_okC own kind idx len (q :: r) = true) : kind = 2 ∧ ∃ w1 w2 w3 w4, r = [w1, w2, w3, w4] := by
  rcases r with _ | ⟨a1, _ | ⟨a2, _ | ⟨a3, _ | ⟨a4, _ | ⟨a5, r⟩⟩⟩⟩⟩
  · rcases hq with rfl | rfl | rfl | rfl <;> simp [am_okC] at h
  · rcases hq with rfl | rfl | rfl | rfl <;> simp [am_okC] at h
  · rcases hq with rfl | rfl | rfl | rfl <;> simp [am_okC] at h
  · rcases hq with rfl | rfl | rfl | rfl <;> simp [am_okC] at h
  · refine ⟨?_, a1, a2, a3, a4, rfl⟩
    rcases hq with rfl | rfl | rfl | rfl
    · simp only [am_okC, Bool.and_eq_true, beq_iff_eq] at h; exact h.1.1.1.1.2
    · simp only [am_okC, Bool.and_eq_true, beq_iff_eq] at h; exact h.1.1.1.1.2
    · simp only [am_okC, Bool.and_eq_true, beq_iff_eq] at h; exact h.1.1.1.1.2
    · simp only [am_okC, Bool.and_eq_true, beq_iff_eq] at h; exact h.1.1.1.1.2
  · rcases hq with rfl | rfl | rfl | rfl <;> simp [am_okC] at h
def am_after (n : Nat) (o : am_O) : Option am_R := match o with
  | .inl r => some r
  | .inr (.inl Y) => am_run PG n Y
  | .inr (.inr (Y, k)) => (am_run PG n Y).bind fun r => (k r).bind (am_run PG n)
section AMQ
variable {l : Launch} {D : va_G} {tA : Nat → ClassId} {b B0 L : Nat} {xs : Nat → Int32}
variable {d M : Nat} {es es' : List am_I} {ls ls' st st' : List am_V} {h h' : am_H} {r : am_R}
theorem am_Sm.step (H : am_Sm l D tA b B0 L xs d M es' ls' st' h' r) (hle : h.1.1 ≤ h'.1.1 ∧ h.1.2 ≤ h'.1.2) (k : ∀ (p : Program) (e : Env) (R : Room) (s : State) (m : MethodId) (args : Array Value) (below : List Frame) (meth : Method) (c : Code) (Q : State → Prop) (a0 : Nat → Nat) (cE sE : Nat), am_Cx p s m args meth c D tA b B0 L xs M → h'.1.1 ≤ cE + R.cells → h'.1.2 ≤ sE + R.slots → 1 ≤ R.frames → 40 ≤ R.locals → am_Gl p l e R s m args below meth c Q D tA b B0 L xs a0 cE sE M es' ls' st' h' → am_Gl p l e R s m args below meth c Q D tA b B0 L xs a0 cE sE M es ls st h) : am_Sm l D tA b B0 L xs d M es ls st h r :=
  ⟨⟨Nat.le_trans hle.1 H.1.1, Nat.le_trans hle.2 H.1.2⟩, fun p e R s m args below meth c Q a0 cE sE C hc1 hc2 hf hlo hend => k p e R s m args below meth c Q a0 cE sE C (Nat.le_trans H.1.1 hc1) (Nat.le_trans H.1.2 hc2) (by omega) (by omega) (H.2 p e R s m args below meth c Q a0 cE sE C hc1 hc2 hf hlo hend)⟩
theorem am_Sm.done {pc len : Nat} {i : Instr} {os : List Nat} {z : Int} (hs : am_stop (pc, i, len, os, z) = false) (hu : ∀ {own mn : String}, am_okL own mn (pc, i, len, os, z) = true → len = 1) (hm : am_rmt i z r.1) (hst : st = r.1.toList) (hh : h = r.2) : am_Sm l D tA b B0 L xs d M ((pc, i, len, os, z) :: es) ls st h r := by
  subst hst hh
  refine ⟨am_rf_h, fun p e R s m args below meth c Q a0 cE sE C hc1 hc2 hf hlo hend => ?_⟩
  intro pc0 ad lsC H locs hpc hchk hRe
  have hpc := hpc _ rfl
  dsimp only at hpc
  subst hpc
  obtain ⟨hdec, hlk, hrok, hnx, hck⟩ := am_chk_cons hchk hs
  obtain rfl := hu hlk
  exact hend pc i z ad ls lsC H locs hdec hrok hm hRe
theorem am_sim_inv {n k pc len : Nat} {i : Instr} {os : List Nat} {z : Int} {o : am_O} (fin : ∀ {es' : List am_I} {ls' st' : List am_V} {h' : am_H}, o = am_go d M es' ls' st' h' → am_Sm l D tA b B0 L xs d M es' ls' st' h' r)
    (ih : ∀ (d M : Nat) (es : List am_I) (ls st : List am_V) (h : am_H) (r : am_R), am_run PG n (d, M, es, ls, st, h) = some r → am_Sm l D tA b B0 L xs d M es ls st h r) (hr : am_after n o = some r) (hp : am_inv PG d M es ls st h os = some o) (hop : i = .invokevirtual k ∨ i = .invokestatic k ∨ i = .invokespecial k) :
    am_Sm l D tA b B0 L xs d M ((pc, i, len, os, z) :: es) ls st h r := by
  unfold am_inv at hp
  split at hp
  next y n' t rc rest =>
    split at hp
    next => cases hp
    next d' =>
      split at hp
      next hc =>
        cases hp
        obtain ⟨hrcv, hlen, hcat, hsl⟩ := hc
        obtain ⟨r1, hr1, hr2⟩ := am_bind (show (am_run PG n _).bind _ = some r from hr)
        obtain ⟨Y, hk, hr3⟩ := am_bind hr2
        have hY := am_ret_sp hk
        subst hY
        have S1 := ih _ _ _ _ _ _ _ hr1
        have S2 := ih _ _ _ _ _ _ _ hr3
        have hct := am_met hsl S1
        refine ⟨⟨Nat.le_trans S1.1.1 S2.1.1, Nat.le_trans S1.1.2 S2.1.2⟩, fun p e R s m args below meth c Q a0 cE sE C hc1 hc2 hf hlo hend => ?_⟩
        intro pc0 ad lsC H locs hpc hchk hRe
        have K := S2.2 p e R s m args below meth c Q a0 cE sE C hc1 hc2 hf hlo hend
        rcases hop with rfl | rfl | rfl
        · have hok := (am_chk_cons hchk rfl).2.1
          simp only [am_okL] at hok
          obtain ⟨vk, wl, wi, ws, wini, wc, rfl⟩ := am_okC_pat0 hok
          exact am_s_invokevirtual C hct S1.1 hrcv hlen hcat (Nat.le_trans S2.1.1 hc1) (Nat.le_trans S2.1.2 hc2) (by omega) (by omega) K pc0 ad lsC H locs hpc hchk hRe
        · have hok := (am_chk_cons hchk rfl).2.1
          simp only [am_okL] at hok
          obtain ⟨vk, wl, wi, ws, wini, wc, rfl⟩ := am_okC_pat0 hok
          exact am_s_invokestatic C hct S1.1 hrcv hlen hcat (Nat.le_trans S2.1.1 hc1) (Nat.le_trans S2.1.2 hc2) (by omega) (by omega) K pc0 ad lsC H locs hpc hchk hRe
        · have hok := (am_chk_cons hchk rfl).2.1
          simp only [am_okL] at hok
          obtain ⟨vk, wl, wi, ws, wini, wc, rfl⟩ := am_okC_pat0 hok
          exact am_s_invokespecial C hct S1.1 hrcv hlen hcat (Nat.le_trans S2.1.1 hc1) (Nat.le_trans S2.1.2 hc2) (by omega) (by omega) K pc0 ad lsC H locs hpc hchk hRe
      next => cases hp
  next rest =>
    split at hp
    next q st' =>
      split at hp
      next hc =>
        cases hp
        refine (fin rfl).step am_rf_h (fun _ _ _ _ _ _ _ _ _ _ _ _ _ C hc1 hc2 hf hlo K => fun pc0 ad lsC H locs hpc hchk hRe => ?_)
        rcases hop with rfl | rfl | rfl
        · have hok := (am_chk_cons hchk rfl).2.1
          simp only [am_okL] at hok
          exact absurd (am_okC_pat1 hok).1 (by decide)
        · have hok := (am_chk_cons hchk rfl).2.1
          simp only [am_okL] at hok
          exact absurd (am_okC_pat1 hok).1 (by decide)
        · have hok := (am_chk_cons hchk rfl).2.1
          simp only [am_okL] at hok
          obtain ⟨-, wl, wi, wc, rfl⟩ := am_okC_pat1 hok
          exact am_s_obj C hf hlo hc K pc0 ad lsC H locs hpc hchk hRe
      next => cases hp
    next => cases hp
  next rest =>
    split at hp
    next y x st' =>
      split at hp
      next hc =>
        cases hp
        refine (fin rfl).step am_rf_h (fun _ _ _ _ _ _ _ _ _ _ _ _ _ C hc1 hc2 hf hlo K => fun pc0 ad lsC H locs hpc hchk hRe => ?_)
        rcases hop with rfl | rfl | rfl
        · have hok := (am_chk_cons hchk rfl).2.1
          simp only [am_okL] at hok
          exact absurd (am_okC_pat2 (by decide) hok).1 (by decide)
        · have hok := (am_chk_cons hchk rfl).2.1
          simp only [am_okL] at hok
          obtain ⟨-, w1, w2, w3, w4, rfl⟩ := am_okC_pat2 (by decide) hok
          exact am_s_max C hf hlo hc hc1 hc2 K pc0 ad lsC H locs hpc hchk hRe
        · have hok := (am_chk_cons hchk rfl).2.1
          simp only [am_okL] at hok
          exact absurd (am_okC_pat2 (by decide) hok).1 (by decide)
      next => cases hp
    next => cases hp
  next rest =>
    split at hp
    next y x st' =>
      split at hp
      next hc =>
        cases hp
        refine (fin rfl).step am_rf_h (fun _ _ _ _ _ _ _ _ _ _ _ _ _ C hc1 hc2 hf hlo K => fun pc0 ad lsC H locs hpc hchk hRe => ?_)
        rcases hop with rfl | rfl | rfl
        · have hok := (am_chk_cons hchk rfl).2.1
          simp only [am_okL] at hok
          exact absurd (am_okC_pat2 (by decide) hok).1 (by decide)
        · have hok := (am_chk_cons hchk rfl).2.1
          simp only [am_okL] at hok
          obtain ⟨-, w1, w2, w3, w4, rfl⟩ := am_okC_pat2 (by decide) hok
          exact am_s_min C hf hlo hc hc1 hc2 K pc0 ad lsC H locs hpc hchk hRe
        · have hok := (am_chk_cons hchk rfl).2.1
          simp only [am_okL] at hok
          exact absurd (am_okC_pat2 (by decide) hok).1 (by decide)
      next => cases hp
    next => cases hp
  next rest =>
    split at hp
    next y x st' =>
      split at hp
      next hc =>
        cases hp
        refine (fin rfl).step am_rf_h (fun _ _ _ _ _ _ _ _ _ _ _ _ _ C hc1 hc2 hf hlo K => fun pc0 ad lsC H locs hpc hchk hRe => ?_)
        rcases hop with rfl | rfl | rfl
        · have hok := (am_chk_cons hchk rfl).2.1
          simp only [am_okL] at hok
          exact absurd (am_okC_pat2 (by decide) hok).1 (by decide)
        · have hok := (am_chk_cons hchk rfl).2.1
          simp only [am_okL] at hok
          obtain ⟨-, w1, w2, w3, w4, rfl⟩ := am_okC_pat2 (by decide) hok
          exact am_s_lmin C hf hlo hc hc1 hc2 K pc0 ad lsC H locs hpc hchk hRe
        · have hok := (am_chk_cons hchk rfl).2.1
          simp only [am_okL] at hok
          exact absurd (am_okC_pat2 (by decide) hok).1 (by decide)
      next => cases hp
    next => cases hp
  next rest =>
    split at hp
    next x dp a sp a0 st' =>
      split at hp
      next hc =>
        obtain ⟨h', h1, h2⟩ := am_bind hp
        cases h2
        have hle : h.1.1 ≤ h'.1.1 ∧ h.1.2 ≤ h'.1.2 := by
          obtain ⟨-, -, -, ⟨_, _, _, _, _, _, _, _, rfl⟩ | ⟨_, _, _, _, _, _, _, _, rfl⟩⟩ := am_cp_sp h1
          · exact am_up_h
          · exact am_up_h
        refine (fin rfl).step hle (fun _ _ _ _ _ _ _ _ _ _ _ _ _ C hc1 hc2 hf hlo K => fun pc0 ad lsC H locs hpc hchk hRe => ?_)
        rcases hop with rfl | rfl | rfl
        · have hok := (am_chk_cons hchk rfl).2.1
          simp only [am_okL] at hok
          exact absurd (am_okC_pat2 (by decide) hok).1 (by decide)
        · have hok := (am_chk_cons hchk rfl).2.1
          simp only [am_okL] at hok
          obtain ⟨-, w1, w2, w3, w4, rfl⟩ := am_okC_pat2 (by decide) hok
          exact am_s_copy C hf hlo hc h1 K pc0 ad lsC H locs hpc hchk hRe
        · have hok := (am_chk_cons hchk rfl).2.1
          simp only [am_okL] at hok
          exact absurd (am_okC_pat2 (by decide) hok).1 (by decide)
      next => cases hp
    next => cases hp
  next => cases hp
theorem am_sim : ∀ (n d M : Nat) (es : List am_I) (ls st : List am_V) (h : am_H) (r : am_R), am_run PG n (d, M, es, ls, st, h) = some r → am_Sm l D tA b B0 L xs d M es ls st h r
  | 0, d, M, es, ls, st, h, r, hr => by simp [am_run] at hr
  | n + 1, d, M, [], ls, st, h, r, hr => by simp [am_run, am_plan] at hr
  | n + 1, d, M, (pc, i, len, os, z) :: es, ls, st, h, r, hr => by
    have ih := am_sim n
    rw [am_run] at hr
    cases hp : am_plan PG (d, M, (pc, i, len, os, z) :: es, ls, st, h) with
    | none => rw [hp] at hr; cases hr
    | some o =>
    rw [hp] at hr
    have fin : ∀ {es' : List am_I} {ls' st' : List am_V} {h' : am_H}, o = am_go d M es' ls' st' h' → am_Sm l D tA b B0 L xs d M es' ls' st' h' r := fun e => by
      subst e
      exact ih _ _ _ _ _ _ _ hr
    cases i
    case iload k =>
      obtain ⟨x, hl, e⟩ := am_ldI_sp (show am_ldI d M es ls st h k = some o from hp)
      exact (fin e).step am_rf_h (fun _ _ _ _ _ _ _ _ _ _ _ _ _ C hc1 hc2 hf hlo K => am_s_iload C hl K)
    case iload_n k =>
      obtain ⟨x, hl, e⟩ := am_ldI_sp (show am_ldI d M es ls st h k = some o from hp)
      exact (fin e).step am_rf_h (fun _ _ _ _ _ _ _ _ _ _ _ _ _ C hc1 hc2 hf hlo K => am_s_iload_n C hl K)
    case lload k =>
      obtain ⟨x, hl, e⟩ := am_ldL_sp (show am_ldL d M es ls st h k = some o from hp)
      exact (fin e).step am_rf_h (fun _ _ _ _ _ _ _ _ _ _ _ _ _ C hc1 hc2 hf hlo K => am_s_lload C hl K)
    case lload_n k =>
      obtain ⟨x, hl, e⟩ := am_ldL_sp (show am_ldL d M es ls st h k = some o from hp)
      exact (fin e).step am_rf_h (fun _ _ _ _ _ _ _ _ _ _ _ _ _ C hc1 hc2 hf hlo K => am_s_lload_n C hl K)
    case aload k =>
      obtain ⟨x, hl, e⟩ := am_ldR_sp (show am_ldR d M es ls st h k = some o from hp)
      exact (fin e).step am_rf_h (fun _ _ _ _ _ _ _ _ _ _ _ _ _ C hc1 hc2 hf hlo K => am_s_aload C hl K)
    case aload_n k =>
      obtain ⟨x, hl, e⟩ := am_ldR_sp (show am_ldR d M es ls st h k = some o from hp)
      exact (fin e).step am_rf_h (fun _ _ _ _ _ _ _ _ _ _ _ _ _ C hc1 hc2 hf hlo K => am_s_aload_n C hl K)
    case istore k =>
      obtain ⟨x, st', rfl, hl, e⟩ := am_toI_sp (show am_toI d M es ls st h k = some o from hp)
      exact (fin e).step am_rf_h (fun _ _ _ _ _ _ _ _ _ _ _ _ _ C hc1 hc2 hf hlo K => am_s_istore C hl K)
    case istore_n k =>
      obtain ⟨x, st', rfl, hl, e⟩ := am_toI_sp (show am_toI d M es ls st h k = some o from hp)
      exact (fin e).step am_rf_h (fun _ _ _ _ _ _ _ _ _ _ _ _ _ C hc1 hc2 hf hlo K => am_s_istore_n C hl K)
    case astore k =>
      obtain ⟨x, st', rfl, hl, e⟩ := am_toR_sp (show am_toR d M es ls st h k = some o from hp)
      exact (fin e).step am_rf_h (fun _ _ _ _ _ _ _ _ _ _ _ _ _ C hc1 hc2 hf hlo K => am_s_astore C hl K)
    case astore_n k =>
      obtain ⟨x, st', rfl, hl, e⟩ := am_toR_sp (show am_toR d M es ls st h k = some o from hp)
      exact (fin e).step am_rf_h (fun _ _ _ _ _ _ _ _ _ _ _ _ _ C hc1 hc2 hf hlo K => am_s_astore_n C hl K)
    case lstore k =>
      obtain ⟨x, st', rfl, hl, e⟩ := am_toL_sp (show am_toL d M es ls st h k = some o from hp)
      exact (fin e).step am_rf_h (fun _ _ _ _ _ _ _ _ _ _ _ _ _ C hc1 hc2 hf hlo K => am_s_lstore C hl K)
    case lstore_n k =>
      obtain ⟨x, st', rfl, hl, e⟩ := am_toL_sp (show am_toL d M es ls st h k = some o from hp)
      exact (fin e).step am_rf_h (fun _ _ _ _ _ _ _ _ _ _ _ _ _ C hc1 hc2 hf hlo K => am_s_lstore_n C hl K)
    case iinc k c =>
      simp only [am_plan] at hp
      split at hp
      next x hx => cases hp; exact (fin rfl).step am_rf_h (fun _ _ _ _ _ _ _ _ _ _ _ _ _ C hc1 hc2 hf hlo K => am_s_iinc C hx K)
      next => cases hp
    case iconst k =>
      cases hp
      exact (fin rfl).step am_rf_h (fun _ _ _ _ _ _ _ _ _ _ _ _ _ C hc1 hc2 hf hlo K => am_s_iconst C K)
    case bipush k =>
      cases hp
      exact (fin rfl).step am_rf_h (fun _ _ _ _ _ _ _ _ _ _ _ _ _ C hc1 hc2 hf hlo K => am_s_bipush C K)
    case sipush k =>
      cases hp
      exact (fin rfl).step am_rf_h (fun _ _ _ _ _ _ _ _ _ _ _ _ _ C hc1 hc2 hf hlo K => am_s_sipush C K)
    case lconst k =>
      cases hp
      exact (fin rfl).step am_rf_h (fun _ _ _ _ _ _ _ _ _ _ _ _ _ C hc1 hc2 hf hlo K => am_s_lconst C K)
    case ldc k =>
      simp only [am_plan] at hp
      split at hp
      next => cases hp
      next hno =>
        cases hp
        exact (fin rfl).step am_rf_h (fun _ _ _ _ _ _ _ _ _ _ _ _ _ C hc1 hc2 hf hlo K => fun pc0 ad lsC H locs hpc hchk hRe => by
          rcases os with _ | ⟨w, _ | ⟨w2, os⟩⟩
          · exact absurd rfl (hno)
          · exact am_s_ldc C K pc0 ad lsC H locs hpc hchk hRe
          · exact absurd (am_chk_cons hchk (by simp [am_stop, am_bad])).2.1 (by simp [am_okL]))
    case ldc_w k =>
      cases hp
      exact (fin rfl).step am_rf_h (fun _ _ _ _ _ _ _ _ _ _ _ _ _ C hc1 hc2 hf hlo K => fun pc0 ad lsC H locs hpc hchk hRe => by
        rcases os with _ | ⟨w, _ | ⟨w2, os⟩⟩
        · exact absurd (am_chk_cons hchk rfl).2.1 (by simp [am_okL])
        · exact am_s_ldc_w C K pc0 ad lsC H locs hpc hchk hRe
        · exact absurd (am_chk_cons hchk (by simp [am_stop, am_bad])).2.1 (by simp [am_okL]))
    case ldc2_w k =>
      cases hp
      exact (fin rfl).step am_rf_h (fun _ _ _ _ _ _ _ _ _ _ _ _ _ C hc1 hc2 hf hlo K => fun pc0 ad lsC H locs hpc hchk hRe => by
        rcases os with _ | ⟨w, _ | ⟨w2, os⟩⟩
        · exact absurd (am_chk_cons hchk rfl).2.1 (by simp [am_okL])
        · exact am_s_ldc2_w C K pc0 ad lsC H locs hpc hchk hRe
        · exact absurd (am_chk_cons hchk (by simp [am_stop, am_bad])).2.1 (by simp [am_okL]))
    case iadd  =>
      obtain ⟨x, y, st', rfl, e⟩ := am_i2_sp (show am_i2 d M es ls st h _ = some o from hp)
      exact (fin e).step am_rf_h (fun _ _ _ _ _ _ _ _ _ _ _ _ _ C hc1 hc2 hf hlo K => am_s_iadd C K)
    case isub  =>
      obtain ⟨x, y, st', rfl, e⟩ := am_i2_sp (show am_i2 d M es ls st h _ = some o from hp)
      exact (fin e).step am_rf_h (fun _ _ _ _ _ _ _ _ _ _ _ _ _ C hc1 hc2 hf hlo K => am_s_isub C K)
    case imul  =>
      obtain ⟨x, y, st', rfl, e⟩ := am_i2_sp (show am_i2 d M es ls st h _ = some o from hp)
      exact (fin e).step am_rf_h (fun _ _ _ _ _ _ _ _ _ _ _ _ _ C hc1 hc2 hf hlo K => am_s_imul C K)
    case iand  =>
      obtain ⟨x, y, st', rfl, e⟩ := am_i2_sp (show am_i2 d M es ls st h _ = some o from hp)
      exact (fin e).step am_rf_h (fun _ _ _ _ _ _ _ _ _ _ _ _ _ C hc1 hc2 hf hlo K => am_s_iand C K)
    case ior  =>
      obtain ⟨x, y, st', rfl, e⟩ := am_i2_sp (show am_i2 d M es ls st h _ = some o from hp)
      exact (fin e).step am_rf_h (fun _ _ _ _ _ _ _ _ _ _ _ _ _ C hc1 hc2 hf hlo K => am_s_ior C K)
    case ishl  =>
      obtain ⟨x, y, st', rfl, e⟩ := am_i2_sp (show am_i2 d M es ls st h _ = some o from hp)
      exact (fin e).step am_rf_h (fun _ _ _ _ _ _ _ _ _ _ _ _ _ C hc1 hc2 hf hlo K => am_s_ishl C K)
    case ishr  =>
      obtain ⟨x, y, st', rfl, e⟩ := am_i2_sp (show am_i2 d M es ls st h _ = some o from hp)
      exact (fin e).step am_rf_h (fun _ _ _ _ _ _ _ _ _ _ _ _ _ C hc1 hc2 hf hlo K => am_s_ishr C K)
    case iushr  =>
      obtain ⟨x, y, st', rfl, e⟩ := am_i2_sp (show am_i2 d M es ls st h _ = some o from hp)
      exact (fin e).step am_rf_h (fun _ _ _ _ _ _ _ _ _ _ _ _ _ C hc1 hc2 hf hlo K => am_s_iushr C K)
    case idiv  =>
      obtain ⟨x, y, st', rfl, hy, e⟩ := am_dv_sp (show am_dv d M es ls st h _ = some o from hp)
      exact (fin e).step am_rf_h (fun _ _ _ _ _ _ _ _ _ _ _ _ _ C hc1 hc2 hf hlo K => am_s_idiv C hy K)
    case irem  =>
      obtain ⟨x, y, st', rfl, hy, e⟩ := am_dv_sp (show am_dv d M es ls st h _ = some o from hp)
      exact (fin e).step am_rf_h (fun _ _ _ _ _ _ _ _ _ _ _ _ _ C hc1 hc2 hf hlo K => am_s_irem C hy K)
    case ineg  =>
      obtain ⟨x, st', rfl, e⟩ := am_i1_sp (show am_i1 d M es ls st h _ = some o from hp)
      exact (fin e).step am_rf_h (fun _ _ _ _ _ _ _ _ _ _ _ _ _ C hc1 hc2 hf hlo K => am_s_ineg C K)
    case i2l  =>
      obtain ⟨x, st', rfl, e⟩ := am_i1_sp (show am_i1 d M es ls st h _ = some o from hp)
      exact (fin e).step am_rf_h (fun _ _ _ _ _ _ _ _ _ _ _ _ _ C hc1 hc2 hf hlo K => am_s_i2l C K)
    case i2b  =>
      obtain ⟨x, st', rfl, e⟩ := am_i1_sp (show am_i1 d M es ls st h _ = some o from hp)
      exact (fin e).step am_rf_h (fun _ _ _ _ _ _ _ _ _ _ _ _ _ C hc1 hc2 hf hlo K => am_s_i2b C K)
    case l2i  =>
      obtain ⟨x, st', rfl, e⟩ := am_l1_sp (show am_l1 d M es ls st h _ = some o from hp)
      exact (fin e).step am_rf_h (fun _ _ _ _ _ _ _ _ _ _ _ _ _ C hc1 hc2 hf hlo K => am_s_l2i C K)
    case ladd  =>
      obtain ⟨x, y, st', rfl, e⟩ := am_l2_sp (show am_l2 d M es ls st h _ = some o from hp)
      exact (fin e).step am_rf_h (fun _ _ _ _ _ _ _ _ _ _ _ _ _ C hc1 hc2 hf hlo K => am_s_ladd C K)
    case lsub  =>
      obtain ⟨x, y, st', rfl, e⟩ := am_l2_sp (show am_l2 d M es ls st h _ = some o from hp)
      exact (fin e).step am_rf_h (fun _ _ _ _ _ _ _ _ _ _ _ _ _ C hc1 hc2 hf hlo K => am_s_lsub C K)
    case lmul  =>
      obtain ⟨x, y, st', rfl, e⟩ := am_l2_sp (show am_l2 d M es ls st h _ = some o from hp)
      exact (fin e).step am_rf_h (fun _ _ _ _ _ _ _ _ _ _ _ _ _ C hc1 hc2 hf hlo K => am_s_lmul C K)
    case lor  =>
      obtain ⟨x, y, st', rfl, e⟩ := am_l2_sp (show am_l2 d M es ls st h _ = some o from hp)
      exact (fin e).step am_rf_h (fun _ _ _ _ _ _ _ _ _ _ _ _ _ C hc1 hc2 hf hlo K => am_s_lor C K)
    case lcmp  =>
      obtain ⟨x, y, st', rfl, e⟩ := am_l2_sp (show am_l2 d M es ls st h _ = some o from hp)
      exact (fin e).step am_rf_h (fun _ _ _ _ _ _ _ _ _ _ _ _ _ C hc1 hc2 hf hlo K => am_s_lcmp C K)
    case lshl  =>
      obtain ⟨x, y, st', rfl, e⟩ := am_li_sp (show am_li d M es ls st h _ = some o from hp)
      exact (fin e).step am_rf_h (fun _ _ _ _ _ _ _ _ _ _ _ _ _ C hc1 hc2 hf hlo K => am_s_lshl C K)
    case lshr  =>
      obtain ⟨x, y, st', rfl, e⟩ := am_li_sp (show am_li d M es ls st h _ = some o from hp)
      exact (fin e).step am_rf_h (fun _ _ _ _ _ _ _ _ _ _ _ _ _ C hc1 hc2 hf hlo K => am_s_lshr C K)
    case dup  =>
      simp only [am_plan] at hp
      split at hp
      next v st' =>
        split at hp
        next hv => cases hp; exact (fin rfl).step am_rf_h (fun _ _ _ _ _ _ _ _ _ _ _ _ _ C hc1 hc2 hf hlo K => am_s_dup C hv K)
        next => cases hp
      next => cases hp
    case pop  =>
      simp only [am_plan] at hp
      split at hp
      next v st' =>
        split at hp
        next hv => cases hp; exact (fin rfl).step am_rf_h (fun _ _ _ _ _ _ _ _ _ _ _ _ _ C hc1 hc2 hf hlo K => am_s_pop C hv K)
        next => cases hp
      next => cases hp
    case dup2  =>
      simp only [am_plan] at hp
      split at hp
      next v w st' =>
        split at hp
        next hv => cases hp; exact (fin rfl).step am_rf_h (fun _ _ _ _ _ _ _ _ _ _ _ _ _ C hc1 hc2 hf hlo K => am_s_dup2 C hv.1 hv.2 K)
        next => cases hp
      next => cases hp
    case if_icmp c off =>
      simp only [am_plan] at hp
      split at hp
      next y x st' =>
        cases c
        case eq =>
          by_cases hc : x = y
          · rw [if_pos (show am_cmp .eq x y = true from decide_eq_true hc)] at hp
            cases hp
            exact (fin rfl).step am_rf_h (fun _ _ _ _ _ _ _ _ _ _ _ _ _ C hc1 hc2 hf hlo K => am_s_icmp_eq C (by rw [if_pos hc]; exact K))
          · rw [if_neg (show ¬ am_cmp .eq x y = true from fun q => hc (of_decide_eq_true q))] at hp
            cases hp
            exact (fin rfl).step am_rf_h (fun _ _ _ _ _ _ _ _ _ _ _ _ _ C hc1 hc2 hf hlo K => am_s_icmp_eq C (by rw [if_neg hc]; exact K))
        case ne =>
          by_cases hc : ¬ x = y
          · rw [if_pos (show am_cmp .ne x y = true from decide_eq_true hc)] at hp
            cases hp
            exact (fin rfl).step am_rf_h (fun _ _ _ _ _ _ _ _ _ _ _ _ _ C hc1 hc2 hf hlo K => am_s_icmp_ne C (by rw [if_pos hc]; exact K))
          · rw [if_neg (show ¬ am_cmp .ne x y = true from fun q => hc (of_decide_eq_true q))] at hp
            cases hp
            exact (fin rfl).step am_rf_h (fun _ _ _ _ _ _ _ _ _ _ _ _ _ C hc1 hc2 hf hlo K => am_s_icmp_ne C (by rw [if_neg hc]; exact K))
        case lt =>
          by_cases hc : x < y
          · rw [if_pos (show am_cmp .lt x y = true from decide_eq_true hc)] at hp
            cases hp
            exact (fin rfl).step am_rf_h (fun _ _ _ _ _ _ _ _ _ _ _ _ _ C hc1 hc2 hf hlo K => am_s_icmp_lt C (by rw [if_pos hc]; exact K))
          · rw [if_neg (show ¬ am_cmp .lt x y = true from fun q => hc (of_decide_eq_true q))] at hp
            cases hp
            exact (fin rfl).step am_rf_h (fun _ _ _ _ _ _ _ _ _ _ _ _ _ C hc1 hc2 hf hlo K => am_s_icmp_lt C (by rw [if_neg hc]; exact K))
        case ge =>
          by_cases hc : y ≤ x
          · rw [if_pos (show am_cmp .ge x y = true from decide_eq_true hc)] at hp
            cases hp
            exact (fin rfl).step am_rf_h (fun _ _ _ _ _ _ _ _ _ _ _ _ _ C hc1 hc2 hf hlo K => am_s_icmp_ge C (by rw [if_pos hc]; exact K))
          · rw [if_neg (show ¬ am_cmp .ge x y = true from fun q => hc (of_decide_eq_true q))] at hp
            cases hp
            exact (fin rfl).step am_rf_h (fun _ _ _ _ _ _ _ _ _ _ _ _ _ C hc1 hc2 hf hlo K => am_s_icmp_ge C (by rw [if_neg hc]; exact K))
        case gt =>
          by_cases hc : y < x
          · rw [if_pos (show am_cmp .gt x y = true from decide_eq_true hc)] at hp
            cases hp
            exact (fin rfl).step am_rf_h (fun _ _ _ _ _ _ _ _ _ _ _ _ _ C hc1 hc2 hf hlo K => am_s_icmp_gt C (by rw [if_pos hc]; exact K))
          · rw [if_neg (show ¬ am_cmp .gt x y = true from fun q => hc (of_decide_eq_true q))] at hp
            cases hp
            exact (fin rfl).step am_rf_h (fun _ _ _ _ _ _ _ _ _ _ _ _ _ C hc1 hc2 hf hlo K => am_s_icmp_gt C (by rw [if_neg hc]; exact K))
        case le =>
          by_cases hc : x ≤ y
          · rw [if_pos (show am_cmp .le x y = true from decide_eq_true hc)] at hp
            cases hp
            exact (fin rfl).step am_rf_h (fun _ _ _ _ _ _ _ _ _ _ _ _ _ C hc1 hc2 hf hlo K => am_s_icmp_le C (by rw [if_pos hc]; exact K))
          · rw [if_neg (show ¬ am_cmp .le x y = true from fun q => hc (of_decide_eq_true q))] at hp
            cases hp
            exact (fin rfl).step am_rf_h (fun _ _ _ _ _ _ _ _ _ _ _ _ _ C hc1 hc2 hf hlo K => am_s_icmp_le C (by rw [if_neg hc]; exact K))
      next => cases hp
    case ifCond c off =>
      simp only [am_plan] at hp
      split at hp
      next x st' =>
        cases c
        case eq =>
          by_cases hc : x = 0
          · rw [if_pos (show am_cmp .eq x 0 = true from decide_eq_true hc)] at hp
            cases hp
            exact (fin rfl).step am_rf_h (fun _ _ _ _ _ _ _ _ _ _ _ _ _ C hc1 hc2 hf hlo K => am_s_if_eq C (by rw [if_pos hc]; exact K))
          · rw [if_neg (show ¬ am_cmp .eq x 0 = true from fun q => hc (of_decide_eq_true q))] at hp
            cases hp
            exact (fin rfl).step am_rf_h (fun _ _ _ _ _ _ _ _ _ _ _ _ _ C hc1 hc2 hf hlo K => am_s_if_eq C (by rw [if_neg hc]; exact K))
        case ne =>
          by_cases hc : ¬ x = 0
          · rw [if_pos (show am_cmp .ne x 0 = true from decide_eq_true hc)] at hp
            cases hp
            exact (fin rfl).step am_rf_h (fun _ _ _ _ _ _ _ _ _ _ _ _ _ C hc1 hc2 hf hlo K => am_s_if_ne C (by rw [if_pos hc]; exact K))
          · rw [if_neg (show ¬ am_cmp .ne x 0 = true from fun q => hc (of_decide_eq_true q))] at hp
            cases hp
            exact (fin rfl).step am_rf_h (fun _ _ _ _ _ _ _ _ _ _ _ _ _ C hc1 hc2 hf hlo K => am_s_if_ne C (by rw [if_neg hc]; exact K))
        case lt =>
          by_cases hc : x < 0
          · rw [if_pos (show am_cmp .lt x 0 = true from decide_eq_true hc)] at hp
            cases hp
            exact (fin rfl).step am_rf_h (fun _ _ _ _ _ _ _ _ _ _ _ _ _ C hc1 hc2 hf hlo K => am_s_if_lt C (by rw [if_pos hc]; exact K))
          · rw [if_neg (show ¬ am_cmp .lt x 0 = true from fun q => hc (of_decide_eq_true q))] at hp
            cases hp
            exact (fin rfl).step am_rf_h (fun _ _ _ _ _ _ _ _ _ _ _ _ _ C hc1 hc2 hf hlo K => am_s_if_lt C (by rw [if_neg hc]; exact K))
        case ge =>
          by_cases hc : 0 ≤ x
          · rw [if_pos (show am_cmp .ge x 0 = true from decide_eq_true hc)] at hp
            cases hp
            exact (fin rfl).step am_rf_h (fun _ _ _ _ _ _ _ _ _ _ _ _ _ C hc1 hc2 hf hlo K => am_s_if_ge C (by rw [if_pos hc]; exact K))
          · rw [if_neg (show ¬ am_cmp .ge x 0 = true from fun q => hc (of_decide_eq_true q))] at hp
            cases hp
            exact (fin rfl).step am_rf_h (fun _ _ _ _ _ _ _ _ _ _ _ _ _ C hc1 hc2 hf hlo K => am_s_if_ge C (by rw [if_neg hc]; exact K))
        case gt =>
          by_cases hc : 0 < x
          · rw [if_pos (show am_cmp .gt x 0 = true from decide_eq_true hc)] at hp
            cases hp
            exact (fin rfl).step am_rf_h (fun _ _ _ _ _ _ _ _ _ _ _ _ _ C hc1 hc2 hf hlo K => am_s_if_gt C (by rw [if_pos hc]; exact K))
          · rw [if_neg (show ¬ am_cmp .gt x 0 = true from fun q => hc (of_decide_eq_true q))] at hp
            cases hp
            exact (fin rfl).step am_rf_h (fun _ _ _ _ _ _ _ _ _ _ _ _ _ C hc1 hc2 hf hlo K => am_s_if_gt C (by rw [if_neg hc]; exact K))
        case le =>
          by_cases hc : x ≤ 0
          · rw [if_pos (show am_cmp .le x 0 = true from decide_eq_true hc)] at hp
            cases hp
            exact (fin rfl).step am_rf_h (fun _ _ _ _ _ _ _ _ _ _ _ _ _ C hc1 hc2 hf hlo K => am_s_if_le C (by rw [if_pos hc]; exact K))
          · rw [if_neg (show ¬ am_cmp .le x 0 = true from fun q => hc (of_decide_eq_true q))] at hp
            cases hp
            exact (fin rfl).step am_rf_h (fun _ _ _ _ _ _ _ _ _ _ _ _ _ C hc1 hc2 hf hlo K => am_s_if_le C (by rw [if_neg hc]; exact K))
      next => cases hp
    case goto off =>
      cases hp
      exact (fin rfl).step am_rf_h (fun _ _ _ _ _ _ _ _ _ _ _ _ _ C hc1 hc2 hf hlo K => am_s_goto C K)
    case tableswitch df lo hi offs =>
      obtain ⟨x, st', rfl, ⟨hc, e⟩ | ⟨hc, off, ho, e⟩⟩ := am_tsw_sp (show am_tsw PG d M pc df lo hi offs ls st h = some o from hp)
      · exact (fin e).step am_rf_h (fun _ _ _ _ _ _ _ _ _ _ _ _ _ C hc1 hc2 hf hlo K => am_s_tsw C (fun _ => K) (fun q => absurd hc q))
      · exact (fin e).step am_rf_h (fun _ _ _ _ _ _ _ _ _ _ _ _ _ C hc1 hc2 hf hlo K => am_s_tsw C (fun q => absurd q hc) (fun _ => ⟨off, ho, K⟩))
    case getfield k =>
      obtain ⟨ci, j, t, r', a, st', rfl, rfl, fs, v, h1, h2, e⟩ := am_gf_sp (show am_gf d M es ls st h os = some o from hp)
      exact (fin e).step am_rf_h (fun _ _ _ _ _ _ _ _ _ _ _ _ _ C hc1 hc2 hf hlo K => fun pc0 ad lsC H locs hpc hchk hRe => by
        have hok := (am_chk_cons hchk rfl).2.1
        simp only [am_okL] at hok
        obtain ⟨w, nest, rfl⟩ := am_okF_pat hok
        exact am_s_getf C h1 h2 K pc0 ad lsC H locs hpc hchk hRe)
    case putfield k =>
      obtain ⟨ci, j, t, r', a, v, st', h', rfl, rfl, hv, h1, e⟩ := am_pf_sp (show am_pf d M es ls st h os = some o from hp)
      have hle : h.1.1 ≤ h'.1.1 ∧ h.1.2 ≤ h'.1.2 := by
        obtain ⟨fs, -, -, rfl⟩ := am_p_sp h1
        exact am_up_h
      exact (fin e).step hle (fun _ _ _ _ _ _ _ _ _ _ _ _ _ C hc1 hc2 hf hlo K => fun pc0 ad lsC H locs hpc hchk hRe => by
        have hok := (am_chk_cons hchk rfl).2.1
        simp only [am_okL, Bool.and_eq_true] at hok
        obtain ⟨w, nest, rfl⟩ := am_okF_pat hok.1
        exact am_s_putf C hv h1 K pc0 ad lsC H locs hpc hchk hRe)
    case iaload  =>
      obtain ⟨i, a, st', v, rfl, h1, e⟩ := am_ai_sp (f := fun h a i => (am_lI h a i).map Sum.inl) hp
      obtain ⟨x, h2, rfl⟩ := am_map_sp h1
      exact (fin e).step am_rf_h (fun _ _ _ _ _ _ _ _ _ _ _ _ _ C hc1 hc2 hf hlo K => am_s_iald C h2 K)
    case baload  =>
      obtain ⟨i, a, st', v, rfl, h1, e⟩ := am_ai_sp (f := fun h a i => (am_lB h a i).map Sum.inl) hp
      obtain ⟨x, h2, rfl⟩ := am_map_sp h1
      exact (fin e).step am_rf_h (fun _ _ _ _ _ _ _ _ _ _ _ _ _ C hc1 hc2 hf hlo K => am_s_bald C h2 K)
    case laload  =>
      obtain ⟨i, a, st', v, rfl, h1, e⟩ := am_ai_sp (f := fun h a i => (am_lL h a i).map (fun x => .inr (.inl x))) hp
      obtain ⟨x, h2, rfl⟩ := am_map_sp h1
      exact (fin e).step am_rf_h (fun _ _ _ _ _ _ _ _ _ _ _ _ _ C hc1 hc2 hf hlo K => am_s_lald C h2 K)
    case aaload  =>
      obtain ⟨i, a, st', v, rfl, h1, e⟩ := am_ai_sp (f := fun h a i => (am_lR h a i).map (fun x => .inr (.inr (some x)))) hp
      obtain ⟨x, h2, rfl⟩ := am_map_sp h1
      exact (fin e).step am_rf_h (fun _ _ _ _ _ _ _ _ _ _ _ _ _ C hc1 hc2 hf hlo K => am_s_aald C h2 K)
    case iastore  =>
      obtain ⟨x, i, a, st', h', rfl, h1, e⟩ := am_as_sp (show am_as d M es ls st h _ = some o from hp)
      have hle : h.1.1 ≤ h'.1.1 ∧ h.1.2 ≤ h'.1.2 := by
        obtain ⟨_, _, _, _, _, rfl⟩ := am_sI_sp h1
        exact am_up_h
      exact (fin e).step hle (fun _ _ _ _ _ _ _ _ _ _ _ _ _ C hc1 hc2 hf hlo K => am_s_iast C h1 K)
    case bastore  =>
      obtain ⟨x, i, a, st', h', rfl, h1, e⟩ := am_as_sp (show am_as d M es ls st h _ = some o from hp)
      have hle : h.1.1 ≤ h'.1.1 ∧ h.1.2 ≤ h'.1.2 := by
        obtain ⟨_, _, _, _, _, _, _, rfl⟩ := am_sB_sp h1
        exact am_up_h
      exact (fin e).step hle (fun _ _ _ _ _ _ _ _ _ _ _ _ _ C hc1 hc2 hf hlo K => am_s_bast C h1 K)
    case lastore  =>
      simp only [am_plan] at hp
      split at hp
      next x i a st' =>
        obtain ⟨h', h1, h2⟩ := am_bind hp
        cases h2
        have hle : h.1.1 ≤ h'.1.1 ∧ h.1.2 ≤ h'.1.2 := by
          obtain ⟨_, _, _, _, _, rfl⟩ := am_sL_sp h1
          exact am_up_h
        exact (fin rfl).step hle (fun _ _ _ _ _ _ _ _ _ _ _ _ _ C hc1 hc2 hf hlo K => am_s_last C h1 K)
      next => cases hp
    case aastore  =>
      simp only [am_plan] at hp
      split at hp
      next x i a st' =>
        obtain ⟨h', h1, h2⟩ := am_bind hp
        cases h2
        have hle : h.1.1 ≤ h'.1.1 ∧ h.1.2 ≤ h'.1.2 := by
          obtain ⟨_, _, _, _, _, _, _, rfl⟩ := am_sR_sp h1
          exact am_up_h
        exact (fin rfl).step hle (fun _ _ _ _ _ _ _ _ _ _ _ _ _ C hc1 hc2 hf hlo K => am_s_aast C h1 K)
      next => cases hp
    case arraylength  =>
      simp only [am_plan] at hp
      split at hp
      next a st' =>
        obtain ⟨x, h1, h2⟩ := am_bind hp
        cases h2
        exact (fin rfl).step am_rf_h (fun _ _ _ _ _ _ _ _ _ _ _ _ _ C hc1 hc2 hf hlo K => am_s_alen C h1 K)
      next => cases hp
    case newarray at_ =>
      simp only [am_plan] at hp
      split at hp
      next t os' =>
        obtain ⟨x, st', rfl, h1, h2, e⟩ := am_nwa_sp hp
        exact (fin e).step am_push_h (fun _ _ _ _ _ _ _ _ _ _ _ _ _ C hc1 hc2 hf hlo K => fun pc0 ad lsC H locs hpc hchk hRe => by
          have hok := (am_chk_cons hchk rfl).2.1
          rcases os' with _ | ⟨w, _ | ⟨w2, os'⟩⟩
          · simp [am_okL] at hok
          rotate_left
          · simp [am_okL] at hok
          exact am_s_newa C h1 h2 hc1 hc2 K pc0 ad lsC H locs hpc hchk hRe)
      next => cases hp
    case anewarray k =>
      obtain ⟨x, st', rfl, h1, h2, e⟩ := am_nwa_sp (show am_nwa d M es ls st h 4 = some o from hp)
      exact (fin e).step am_push_h (fun _ _ _ _ _ _ _ _ _ _ _ _ _ C hc1 hc2 hf hlo K => fun pc0 ad lsC H locs hpc hchk hRe => by
        have hok := (am_chk_cons hchk rfl).2.1
        rcases os with _ | ⟨w, _ | ⟨w2, _ | ⟨w3, os⟩⟩⟩
        · simp [am_okL] at hok
        · simp [am_okL] at hok
        rotate_left
        · simp [am_okL] at hok
        exact am_s_newq C h1 h2 hc1 hc2 K pc0 ad lsC H locs hpc hchk hRe)
    case new k =>
      simp only [am_plan] at hp
      split at hp
      next ci os' =>
        cases hp
        exact (fin rfl).step am_push_h (fun _ _ _ _ _ _ _ _ _ _ _ _ _ C hc1 hc2 hf hlo K => fun pc0 ad lsC H locs hpc hchk hRe => by
          have hok := (am_chk_cons hchk (by simp [am_stop, am_bad])).2.1
          rcases os' with _ | ⟨w1, _ | ⟨w2, _ | ⟨w3, _ | ⟨w4, os'⟩⟩⟩⟩
          · simp [am_okL] at hok
          · simp [am_okL] at hok
          · simp [am_okL] at hok
          rotate_left
          · simp [am_okL] at hok
          exact am_s_new C hc1 hc2 K pc0 ad lsC H locs hpc hchk hRe)
      next => cases hp
    case ireturn  =>
      simp only [am_plan] at hp
      split at hp
      next x =>
        split at hp
        next hz => cases hp; cases hr; exact am_Sm.done rfl (fun q => by simpa [am_okL] using q) hz rfl rfl
        next => cases hp
      next => cases hp
    case lreturn  =>
      simp only [am_plan] at hp
      split at hp
      next x => cases hp; cases hr; exact am_Sm.done rfl (fun q => by simpa [am_okL] using q) trivial rfl rfl
      next => cases hp
    case areturn  =>
      simp only [am_plan] at hp
      split at hp
      next x => cases hp; cases hr; exact am_Sm.done rfl (fun q => by simpa [am_okL] using q) trivial rfl rfl
      next => cases hp
    case return_  =>
      simp only [am_plan] at hp
      split at hp
      next => cases hp; cases hr; exact am_Sm.done rfl (fun q => by simpa [am_okL] using q) trivial rfl rfl
      next => cases hp
    case invokevirtual k =>
      exact am_sim_inv (fun {es' ls' st' h'} e => fin e) (fun d' M' es' ls' st' h' r' q => ih d' M' es' ls' st' h' r' q) (by rcases o with r0 | Y | ⟨Y, k2⟩ <;> exact hr) (show am_inv PG d M es ls st h os = some o from hp) (Or.inl rfl)
    case invokestatic k =>
      exact am_sim_inv (fun {es' ls' st' h'} e => fin e) (fun d' M' es' ls' st' h' r' q => ih d' M' es' ls' st' h' r' q) (by rcases o with r0 | Y | ⟨Y, k2⟩ <;> exact hr) (show am_inv PG d M es ls st h os = some o from hp) (Or.inr (Or.inl rfl))
    case invokespecial k =>
      exact am_sim_inv (fun {es' ls' st' h'} e => fin e) (fun d' M' es' ls' st' h' r' q => ih d' M' es' ls' st' h' r' q) (by rcases o with r0 | Y | ⟨Y, k2⟩ <;> exact hr) (show am_inv PG d M es ls st h os = some o from hp) (Or.inr (Or.inr rfl))
    all_goals (simp [am_plan] at hp)
end AMQ
