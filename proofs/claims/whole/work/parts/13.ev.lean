/-! the small machine's outcome, instruction by instruction, as equations (by wip/whole/ev.py) -/
noncomputable abbrev EV (d M : Nat) (es : List am_I) (ls st : List am_V) (h : am_H) : Option am_R := am_ev PG (d, M, es, ls, st, h)
/-- a call from outside -/
noncomputable def am_call (d y : Nat) (av : List am_V) (h : am_H) : Option am_R := EV d y (PG.1 y).1 (am_entry av (PG.1 y).2) [] h
def am_rI (r : am_R) : Option (Int × am_H) := match r.1 with
  | some (.inl x) => some (x, r.2)
  | _ => none
def am_rL (r : am_R) : Option (Int × am_H) := match r.1 with
  | some (.inr (.inl x)) => some (x, r.2)
  | _ => none
def am_rR (r : am_R) : Option (Nat × am_H) := match r.1 with
  | some (.inr (.inr (some x))) => some (x, r.2)
  | _ => none
def am_rV (r : am_R) : Option am_H := match r.1 with
  | none => some r.2
  | _ => none
noncomputable def am_cI (d y : Nat) (av : List am_V) (h : am_H) : Option (Int × am_H) := (am_call d y av h).bind am_rI
noncomputable def am_cL (d y : Nat) (av : List am_V) (h : am_H) : Option (Int × am_H) := (am_call d y av h).bind am_rL
noncomputable def am_cR (d y : Nat) (av : List am_V) (h : am_H) : Option (Nat × am_H) := (am_call d y av h).bind am_rR
noncomputable def am_cV (d y : Nat) (av : List am_V) (h : am_H) : Option am_H := (am_call d y av h).bind am_rV
theorem am_bc {α β : Type} {a : Option α} {f g : α → Option β} (h : ∀ x, f x = g x) : a.bind f = a.bind g := congrArg _ (funext h)
theorem am_ic {c : Prop} [Decidable c] {α : Type} {a b e : α} (h : ¬ c → a = b) : (if c then e else a) = (if c then e else b) := by
  by_cases g : c
  · rw [if_pos g, if_pos g]
  · rw [if_neg g, if_neg g, h g]
theorem am_ig {c : Prop} [Decidable c] {α : Type} {a b e : α} (h : c → a = b) : (if c then a else e) = (if c then b else e) := by
  by_cases g : c
  · rw [if_pos g, if_pos g, h g]
  · rw [if_neg g, if_neg g]
theorem ev_go {X Y : am_X} (hp : am_plan PG X = some (.inr (.inl Y))) : am_ev PG X = am_ev PG Y := by rw [am_ev_eq, hp]
theorem ev_bd {α : Type} {X : am_X} {a : Option α} {f : α → am_X} (hp : am_plan PG X = a.bind (fun x => some (.inr (.inl (f x))))) : am_ev PG X = a.bind (fun x => am_ev PG (f x)) := by
  rw [am_ev_eq, hp]
  cases a <;> rfl
theorem ev_if {X Y Z : am_X} {c : Prop} [Decidable c] (hp : am_plan PG X = if c then some (.inr (.inl Y)) else some (.inr (.inl Z))) : am_ev PG X = if c then am_ev PG Y else am_ev PG Z := by
  rw [am_ev_eq, hp]
  by_cases g : c
  · rw [if_pos g, if_pos g]
  · rw [if_neg g, if_neg g]
theorem ev_dn {X : am_X} {r : am_R} (hp : am_plan PG X = some (.inl r)) : am_ev PG X = some r := by rw [am_ev_eq, hp]
theorem ev_no {X : am_X} (hp : am_plan PG X = none) : am_ev PG X = none := by rw [am_ev_eq, hp]
section EVS
variable {d M pc len : Nat} {os : List Nat} {z x y : Int} {es : List am_I} {ls st : List am_V} {h : am_H}
theorem ev_iload {k : Nat} {v : Int} (hl : ls[(k : Nat)]? = some (.inl v)) : EV d M ((pc, .iload k, len, os, z) :: es) (ls) (st) (h) = EV d M (es) (ls) (.inl v :: st) (h) := ev_go (by show am_ldI d M es ls st h k = _; unfold am_ldI; rw [hl]; rfl)
theorem ev_iload_n {k : Fin 4} {v : Int} (hl : ls[(k : Nat)]? = some (.inl v)) : EV d M ((pc, .iload_n k, len, os, z) :: es) (ls) (st) (h) = EV d M (es) (ls) (.inl v :: st) (h) := ev_go (by show am_ldI d M es ls st h k = _; unfold am_ldI; rw [hl]; rfl)
theorem ev_lload {k : Nat} {v : Int} (hl : ls[(k : Nat)]? = some (.inr (.inl v))) : EV d M ((pc, .lload k, len, os, z) :: es) (ls) (st) (h) = EV d M (es) (ls) (.inr (.inl v) :: st) (h) := ev_go (by show am_ldL d M es ls st h k = _; unfold am_ldL; rw [hl]; rfl)
theorem ev_lload_n {k : Fin 4} {v : Int} (hl : ls[(k : Nat)]? = some (.inr (.inl v))) : EV d M ((pc, .lload_n k, len, os, z) :: es) (ls) (st) (h) = EV d M (es) (ls) (.inr (.inl v) :: st) (h) := ev_go (by show am_ldL d M es ls st h k = _; unfold am_ldL; rw [hl]; rfl)
theorem ev_aload {k : Nat} {v : Nat} (hl : ls[(k : Nat)]? = some (.inr (.inr (some v)))) : EV d M ((pc, .aload k, len, os, z) :: es) (ls) (st) (h) = EV d M (es) (ls) (.inr (.inr (some v)) :: st) (h) := ev_go (by show am_ldR d M es ls st h k = _; unfold am_ldR; rw [hl]; rfl)
theorem ev_aload_n {k : Fin 4} {v : Nat} (hl : ls[(k : Nat)]? = some (.inr (.inr (some v)))) : EV d M ((pc, .aload_n k, len, os, z) :: es) (ls) (st) (h) = EV d M (es) (ls) (.inr (.inr (some v)) :: st) (h) := ev_go (by show am_ldR d M es ls st h k = _; unfold am_ldR; rw [hl]; rfl)
theorem ev_istore {k : Nat} {v : Int} (hl : (k : Nat) < ls.length) : EV d M ((pc, .istore k, len, os, z) :: es) (ls) (.inl v :: st) (h) = EV d M (es) (am_st1 ls k (.inl v)) (st) (h) := ev_go (if_pos hl)
theorem ev_istore_n {k : Fin 4} {v : Int} (hl : (k : Nat) < ls.length) : EV d M ((pc, .istore_n k, len, os, z) :: es) (ls) (.inl v :: st) (h) = EV d M (es) (am_st1 ls k (.inl v)) (st) (h) := ev_go (if_pos hl)
theorem ev_lstore {k : Nat} {v : Int} (hl : (k : Nat) + 1 < ls.length) : EV d M ((pc, .lstore k, len, os, z) :: es) (ls) (.inr (.inl v) :: st) (h) = EV d M (es) (am_st2 ls k (.inr (.inl v))) (st) (h) := ev_go (if_pos hl)
theorem ev_lstore_n {k : Fin 4} {v : Int} (hl : (k : Nat) + 1 < ls.length) : EV d M ((pc, .lstore_n k, len, os, z) :: es) (ls) (.inr (.inl v) :: st) (h) = EV d M (es) (am_st2 ls k (.inr (.inl v))) (st) (h) := ev_go (if_pos hl)
theorem ev_astore {k : Nat} {v : Nat} (hl : (k : Nat) < ls.length) : EV d M ((pc, .astore k, len, os, z) :: es) (ls) (.inr (.inr (some v)) :: st) (h) = EV d M (es) (am_st1 ls k (.inr (.inr (some v)))) (st) (h) := ev_go (if_pos hl)
theorem ev_astore_n {k : Fin 4} {v : Nat} (hl : (k : Nat) < ls.length) : EV d M ((pc, .astore_n k, len, os, z) :: es) (ls) (.inr (.inr (some v)) :: st) (h) = EV d M (es) (am_st1 ls k (.inr (.inr (some v)))) (st) (h) := ev_go (if_pos hl)
theorem ev_iinc {k : Nat} {c : Int} (hl : ls[k]? = some (.inl x)) : EV d M ((pc, .iinc k c, len, os, z) :: es) (ls) (st) (h) = EV d M (es) (am_st1 ls k (.inl (am_w (x + c)))) (st) (h) := ev_go (by show (match ls[k]? with | some (.inl x) => am_nx d M es (am_st1 ls k (.inl (am_w (x + c)))) st h | _ => none) = _; rw [hl]; rfl)
theorem ev_iconst {n : Int} : EV d M ((pc, .iconst n, len, os, z) :: es) (ls) (st) (h) = EV d M (es) (ls) (.inl z :: st) (h) := ev_go rfl
theorem ev_bipush {n : Int} : EV d M ((pc, .bipush n, len, os, z) :: es) (ls) (st) (h) = EV d M (es) (ls) (.inl z :: st) (h) := ev_go rfl
theorem ev_sipush {n : Int} : EV d M ((pc, .sipush n, len, os, z) :: es) (ls) (st) (h) = EV d M (es) (ls) (.inl z :: st) (h) := ev_go rfl
theorem ev_ldc_w {n : Nat} : EV d M ((pc, .ldc_w n, len, os, z) :: es) (ls) (st) (h) = EV d M (es) (ls) (.inl z :: st) (h) := ev_go rfl
theorem ev_ldc {n w : Nat} {os : List Nat} : EV d M ((pc, .ldc n, len, w :: os, z) :: es) (ls) (st) (h) = EV d M (es) (ls) (.inl z :: st) (h) := ev_go rfl
theorem ev_lconst {n : Fin 2} : EV d M ((pc, .lconst n, len, os, z) :: es) (ls) (st) (h) = EV d M (es) (ls) (.inr (.inl z) :: st) (h) := ev_go rfl
theorem ev_ldc2_w {n : Nat} : EV d M ((pc, .ldc2_w n, len, os, z) :: es) (ls) (st) (h) = EV d M (es) (ls) (.inr (.inl z) :: st) (h) := ev_go rfl
theorem ev_iadd  : EV d M ((pc, .iadd, len, os, z) :: es) (ls) (.inl y :: .inl x :: st) (h) = EV d M (es) (ls) (.inl (am_w (x + y)) :: st) (h) := ev_go rfl
theorem ev_isub  : EV d M ((pc, .isub, len, os, z) :: es) (ls) (.inl y :: .inl x :: st) (h) = EV d M (es) (ls) (.inl (am_w (x - y)) :: st) (h) := ev_go rfl
theorem ev_imul  : EV d M ((pc, .imul, len, os, z) :: es) (ls) (.inl y :: .inl x :: st) (h) = EV d M (es) (ls) (.inl (am_w (x * y)) :: st) (h) := ev_go rfl
theorem ev_iand  : EV d M ((pc, .iand, len, os, z) :: es) (ls) (.inl y :: .inl x :: st) (h) = EV d M (es) (ls) (.inl (am_and x y) :: st) (h) := ev_go rfl
theorem ev_ior  : EV d M ((pc, .ior, len, os, z) :: es) (ls) (.inl y :: .inl x :: st) (h) = EV d M (es) (ls) (.inl (am_or x y) :: st) (h) := ev_go rfl
theorem ev_ishl  : EV d M ((pc, .ishl, len, os, z) :: es) (ls) (.inl y :: .inl x :: st) (h) = EV d M (es) (ls) (.inl (am_shl x y) :: st) (h) := ev_go rfl
theorem ev_ishr  : EV d M ((pc, .ishr, len, os, z) :: es) (ls) (.inl y :: .inl x :: st) (h) = EV d M (es) (ls) (.inl (am_shr x y) :: st) (h) := ev_go rfl
theorem ev_iushr  : EV d M ((pc, .iushr, len, os, z) :: es) (ls) (.inl y :: .inl x :: st) (h) = EV d M (es) (ls) (.inl (am_ushr x y) :: st) (h) := ev_go rfl
theorem ev_idiv (hy : ¬ y = 0) : EV d M ((pc, .idiv, len, os, z) :: es) (ls) (.inl y :: .inl x :: st) (h) = EV d M (es) (ls) (.inl (am_div x y) :: st) (h) := ev_go (if_neg hy)
theorem ev_idivg : EV d M ((pc, .idiv, len, os, z) :: es) (ls) (.inl y :: .inl x :: st) (h) = if y = 0 then none else EV d M (es) (ls) (.inl (am_div x y) :: st) (h) := by
  by_cases g : y = 0
  · rw [if_pos g]; exact ev_no (if_pos g)
  · rw [if_neg g]; exact ev_idiv g
theorem ev_irem (hy : ¬ y = 0) : EV d M ((pc, .irem, len, os, z) :: es) (ls) (.inl y :: .inl x :: st) (h) = EV d M (es) (ls) (.inl (am_rem x y) :: st) (h) := ev_go (if_neg hy)
theorem ev_iremg : EV d M ((pc, .irem, len, os, z) :: es) (ls) (.inl y :: .inl x :: st) (h) = if y = 0 then none else EV d M (es) (ls) (.inl (am_rem x y) :: st) (h) := by
  by_cases g : y = 0
  · rw [if_pos g]; exact ev_no (if_pos g)
  · rw [if_neg g]; exact ev_irem g
theorem ev_ineg  : EV d M ((pc, .ineg, len, os, z) :: es) (ls) (.inl x :: st) (h) = EV d M (es) (ls) (.inl (am_w (-x)) :: st) (h) := ev_go rfl
theorem ev_i2b  : EV d M ((pc, .i2b, len, os, z) :: es) (ls) (.inl x :: st) (h) = EV d M (es) (ls) (.inl (am_i2b x) :: st) (h) := ev_go rfl
theorem ev_i2l  : EV d M ((pc, .i2l, len, os, z) :: es) (ls) (.inl x :: st) (h) = EV d M (es) (ls) (.inr (.inl x) :: st) (h) := ev_go rfl
theorem ev_l2i  : EV d M ((pc, .l2i, len, os, z) :: es) (ls) (.inr (.inl x) :: st) (h) = EV d M (es) (ls) (.inl (am_l2i x) :: st) (h) := ev_go rfl
theorem ev_ladd  : EV d M ((pc, .ladd, len, os, z) :: es) (ls) (.inr (.inl y) :: .inr (.inl x) :: st) (h) = EV d M (es) (ls) (.inr (.inl (am_wl (x + y))) :: st) (h) := ev_go rfl
theorem ev_lsub  : EV d M ((pc, .lsub, len, os, z) :: es) (ls) (.inr (.inl y) :: .inr (.inl x) :: st) (h) = EV d M (es) (ls) (.inr (.inl (am_wl (x - y))) :: st) (h) := ev_go rfl
theorem ev_lmul  : EV d M ((pc, .lmul, len, os, z) :: es) (ls) (.inr (.inl y) :: .inr (.inl x) :: st) (h) = EV d M (es) (ls) (.inr (.inl (am_wl (x * y))) :: st) (h) := ev_go rfl
theorem ev_lor  : EV d M ((pc, .lor, len, os, z) :: es) (ls) (.inr (.inl y) :: .inr (.inl x) :: st) (h) = EV d M (es) (ls) (.inr (.inl (am_lor x y)) :: st) (h) := ev_go rfl
theorem ev_lcmp  : EV d M ((pc, .lcmp, len, os, z) :: es) (ls) (.inr (.inl y) :: .inr (.inl x) :: st) (h) = EV d M (es) (ls) (.inl (am_lcmp x y) :: st) (h) := ev_go rfl
theorem ev_lshl  : EV d M ((pc, .lshl, len, os, z) :: es) (ls) (.inl y :: .inr (.inl x) :: st) (h) = EV d M (es) (ls) (.inr (.inl (am_lshl x y)) :: st) (h) := ev_go rfl
theorem ev_lshr  : EV d M ((pc, .lshr, len, os, z) :: es) (ls) (.inl y :: .inr (.inl x) :: st) (h) = EV d M (es) (ls) (.inr (.inl (am_lshr x y)) :: st) (h) := ev_go rfl
theorem ev_dup {v : am_V} (hv : am_cat v = 1) : EV d M ((pc, .dup, len, os, z) :: es) (ls) (v :: st) (h) = EV d M (es) (ls) (v :: v :: st) (h) := ev_go (if_pos hv)
theorem ev_pop {v : am_V} (hv : am_cat v = 1) : EV d M ((pc, .pop, len, os, z) :: es) (ls) (v :: st) (h) = EV d M (es) (ls) (st) (h) := ev_go (if_pos hv)
theorem ev_dup2 {v w : am_V} (hv : am_cat v = 1) (hw : am_cat w = 1) : EV d M ((pc, .dup2, len, os, z) :: es) (ls) (v :: w :: st) (h) = EV d M (es) (ls) (v :: w :: v :: w :: st) (h) := ev_go (if_pos ⟨hv, hw⟩)
theorem ev_icmp_eq {off : Int} {t : Nat} {es2 : List am_I} (ht : am_at (PG.1 M).1 t = es2) (hq : ((pc : Int) + off).toNat = t) : EV d M ((pc, .if_icmp .eq off, len, os, z) :: es) (ls) (.inl y :: .inl x :: st) (h) = if x = y then EV d M (es2) (ls) (st) (h) else EV d M (es) (ls) (st) (h) := by
  subst ht; subst hq
  have e : (am_cmp .eq x y = true) ↔ (x = y) := by simp [am_cmp]
  by_cases g : x = y
  · rw [if_pos g]; exact ev_go (if_pos (e.mpr g))
  · rw [if_neg g]; exact ev_go (if_neg (fun q => g (e.mp q)))
theorem ev_icmp_ne {off : Int} {t : Nat} {es2 : List am_I} (ht : am_at (PG.1 M).1 t = es2) (hq : ((pc : Int) + off).toNat = t) : EV d M ((pc, .if_icmp .ne off, len, os, z) :: es) (ls) (.inl y :: .inl x :: st) (h) = if ¬ x = y then EV d M (es2) (ls) (st) (h) else EV d M (es) (ls) (st) (h) := by
  subst ht; subst hq
  have e : (am_cmp .ne x y = true) ↔ (¬ x = y) := by simp [am_cmp]
  by_cases g : ¬ x = y
  · rw [if_pos g]; exact ev_go (if_pos (e.mpr g))
  · rw [if_neg g]; exact ev_go (if_neg (fun q => g (e.mp q)))
theorem ev_icmp_lt {off : Int} {t : Nat} {es2 : List am_I} (ht : am_at (PG.1 M).1 t = es2) (hq : ((pc : Int) + off).toNat = t) : EV d M ((pc, .if_icmp .lt off, len, os, z) :: es) (ls) (.inl y :: .inl x :: st) (h) = if x < y then EV d M (es2) (ls) (st) (h) else EV d M (es) (ls) (st) (h) := by
  subst ht; subst hq
  have e : (am_cmp .lt x y = true) ↔ (x < y) := by simp [am_cmp]
  by_cases g : x < y
  · rw [if_pos g]; exact ev_go (if_pos (e.mpr g))
  · rw [if_neg g]; exact ev_go (if_neg (fun q => g (e.mp q)))
theorem ev_icmp_ge {off : Int} {t : Nat} {es2 : List am_I} (ht : am_at (PG.1 M).1 t = es2) (hq : ((pc : Int) + off).toNat = t) : EV d M ((pc, .if_icmp .ge off, len, os, z) :: es) (ls) (.inl y :: .inl x :: st) (h) = if y ≤ x then EV d M (es2) (ls) (st) (h) else EV d M (es) (ls) (st) (h) := by
  subst ht; subst hq
  have e : (am_cmp .ge x y = true) ↔ (y ≤ x) := by simp [am_cmp]
  by_cases g : y ≤ x
  · rw [if_pos g]; exact ev_go (if_pos (e.mpr g))
  · rw [if_neg g]; exact ev_go (if_neg (fun q => g (e.mp q)))
theorem ev_icmp_gt {off : Int} {t : Nat} {es2 : List am_I} (ht : am_at (PG.1 M).1 t = es2) (hq : ((pc : Int) + off).toNat = t) : EV d M ((pc, .if_icmp .gt off, len, os, z) :: es) (ls) (.inl y :: .inl x :: st) (h) = if y < x then EV d M (es2) (ls) (st) (h) else EV d M (es) (ls) (st) (h) := by
  subst ht; subst hq
  have e : (am_cmp .gt x y = true) ↔ (y < x) := by simp [am_cmp]
  by_cases g : y < x
  · rw [if_pos g]; exact ev_go (if_pos (e.mpr g))
  · rw [if_neg g]; exact ev_go (if_neg (fun q => g (e.mp q)))
theorem ev_icmp_le {off : Int} {t : Nat} {es2 : List am_I} (ht : am_at (PG.1 M).1 t = es2) (hq : ((pc : Int) + off).toNat = t) : EV d M ((pc, .if_icmp .le off, len, os, z) :: es) (ls) (.inl y :: .inl x :: st) (h) = if x ≤ y then EV d M (es2) (ls) (st) (h) else EV d M (es) (ls) (st) (h) := by
  subst ht; subst hq
  have e : (am_cmp .le x y = true) ↔ (x ≤ y) := by simp [am_cmp]
  by_cases g : x ≤ y
  · rw [if_pos g]; exact ev_go (if_pos (e.mpr g))
  · rw [if_neg g]; exact ev_go (if_neg (fun q => g (e.mp q)))
theorem ev_if_eq {off : Int} {t : Nat} {es2 : List am_I} (ht : am_at (PG.1 M).1 t = es2) (hq : ((pc : Int) + off).toNat = t) : EV d M ((pc, .ifCond .eq off, len, os, z) :: es) (ls) (.inl x :: st) (h) = if x = 0 then EV d M (es2) (ls) (st) (h) else EV d M (es) (ls) (st) (h) := by
  subst ht; subst hq
  have e : (am_cmp .eq x 0 = true) ↔ (x = 0) := by simp [am_cmp]
  by_cases g : x = 0
  · rw [if_pos g]; exact ev_go (if_pos (e.mpr g))
  · rw [if_neg g]; exact ev_go (if_neg (fun q => g (e.mp q)))
theorem ev_if_ne {off : Int} {t : Nat} {es2 : List am_I} (ht : am_at (PG.1 M).1 t = es2) (hq : ((pc : Int) + off).toNat = t) : EV d M ((pc, .ifCond .ne off, len, os, z) :: es) (ls) (.inl x :: st) (h) = if ¬ x = 0 then EV d M (es2) (ls) (st) (h) else EV d M (es) (ls) (st) (h) := by
  subst ht; subst hq
  have e : (am_cmp .ne x 0 = true) ↔ (¬ x = 0) := by simp [am_cmp]
  by_cases g : ¬ x = 0
  · rw [if_pos g]; exact ev_go (if_pos (e.mpr g))
  · rw [if_neg g]; exact ev_go (if_neg (fun q => g (e.mp q)))
theorem ev_if_lt {off : Int} {t : Nat} {es2 : List am_I} (ht : am_at (PG.1 M).1 t = es2) (hq : ((pc : Int) + off).toNat = t) : EV d M ((pc, .ifCond .lt off, len, os, z) :: es) (ls) (.inl x :: st) (h) = if x < 0 then EV d M (es2) (ls) (st) (h) else EV d M (es) (ls) (st) (h) := by
  subst ht; subst hq
  have e : (am_cmp .lt x 0 = true) ↔ (x < 0) := by simp [am_cmp]
  by_cases g : x < 0
  · rw [if_pos g]; exact ev_go (if_pos (e.mpr g))
  · rw [if_neg g]; exact ev_go (if_neg (fun q => g (e.mp q)))
theorem ev_if_ge {off : Int} {t : Nat} {es2 : List am_I} (ht : am_at (PG.1 M).1 t = es2) (hq : ((pc : Int) + off).toNat = t) : EV d M ((pc, .ifCond .ge off, len, os, z) :: es) (ls) (.inl x :: st) (h) = if 0 ≤ x then EV d M (es2) (ls) (st) (h) else EV d M (es) (ls) (st) (h) := by
  subst ht; subst hq
  have e : (am_cmp .ge x 0 = true) ↔ (0 ≤ x) := by simp [am_cmp]
  by_cases g : 0 ≤ x
  · rw [if_pos g]; exact ev_go (if_pos (e.mpr g))
  · rw [if_neg g]; exact ev_go (if_neg (fun q => g (e.mp q)))
theorem ev_if_gt {off : Int} {t : Nat} {es2 : List am_I} (ht : am_at (PG.1 M).1 t = es2) (hq : ((pc : Int) + off).toNat = t) : EV d M ((pc, .ifCond .gt off, len, os, z) :: es) (ls) (.inl x :: st) (h) = if 0 < x then EV d M (es2) (ls) (st) (h) else EV d M (es) (ls) (st) (h) := by
  subst ht; subst hq
  have e : (am_cmp .gt x 0 = true) ↔ (0 < x) := by simp [am_cmp]
  by_cases g : 0 < x
  · rw [if_pos g]; exact ev_go (if_pos (e.mpr g))
  · rw [if_neg g]; exact ev_go (if_neg (fun q => g (e.mp q)))
theorem ev_if_le {off : Int} {t : Nat} {es2 : List am_I} (ht : am_at (PG.1 M).1 t = es2) (hq : ((pc : Int) + off).toNat = t) : EV d M ((pc, .ifCond .le off, len, os, z) :: es) (ls) (.inl x :: st) (h) = if x ≤ 0 then EV d M (es2) (ls) (st) (h) else EV d M (es) (ls) (st) (h) := by
  subst ht; subst hq
  have e : (am_cmp .le x 0 = true) ↔ (x ≤ 0) := by simp [am_cmp]
  by_cases g : x ≤ 0
  · rw [if_pos g]; exact ev_go (if_pos (e.mpr g))
  · rw [if_neg g]; exact ev_go (if_neg (fun q => g (e.mp q)))
theorem ev_goto {off : Int} {t : Nat} {es2 : List am_I} (ht : am_at (PG.1 M).1 t = es2) (hq : ((pc : Int) + off).toNat = t) : EV d M ((pc, .goto off, len, os, z) :: es) (ls) (st) (h) = EV d M (es2) (ls) (st) (h) := by subst ht; subst hq; exact ev_go rfl
theorem ev_tswIn {df lo hi off : Int} {offs : Array Int} {t : Nat} {es2 : List am_I} (h1 : ¬ x < lo) (h2 : ¬ hi < x) (ho : offs[(x - lo).toNat]? = some off) (ht : am_at (PG.1 M).1 t = es2) (hq : ((pc : Int) + off).toNat = t) : EV d M ((pc, .tableswitch df lo hi offs, len, os, z) :: es) (ls) (.inl x :: st) (h) = EV d M (es2) (ls) (st) (h) := by
  subst ht; subst hq
  refine ev_go ?_
  show (if x < lo ∨ hi < x then am_jp PG d M pc df ls st h else _) = _
  rw [if_neg (fun q => q.elim h1 h2), ho]
  rfl
theorem ev_tswOut {df lo hi : Int} {offs : Array Int} {t : Nat} {es2 : List am_I} (hx : x < lo ∨ hi < x) (ht : am_at (PG.1 M).1 t = es2) (hq : ((pc : Int) + df).toNat = t) : EV d M ((pc, .tableswitch df lo hi offs, len, os, z) :: es) (ls) (.inl x :: st) (h) = EV d M (es2) (ls) (st) (h) := by
  subst ht; subst hq
  exact ev_go (if_pos hx)
theorem ev_getR {n ci k a : Nat} {r : List Nat} : EV d M ((pc, .getfield n, len, ci :: k :: 2 :: r, z) :: es) (ls) (.inr (.inr (some a)) :: st) (h) = (am_gR h a ci k).bind fun q => EV d M (es) (ls) (.inr (.inr (some q)) :: st) (h) := ev_bd rfl
theorem ev_getI {n ci k a t : Nat} {r : List Nat} (ht : (t == 2) = false) : EV d M ((pc, .getfield n, len, ci :: k :: t :: r, z) :: es) (ls) (.inr (.inr (some a)) :: st) (h) = (am_gI h a ci k).bind fun q => EV d M (es) (ls) (.inl q :: st) (h) := ev_bd (if_neg (fun q => by rw [q] at ht; cases ht))
theorem ev_putR {n ci k a q : Nat} {r : List Nat} : EV d M ((pc, .putfield n, len, ci :: k :: 2 :: r, z) :: es) (ls) (.inr (.inr (some q)) :: .inr (.inr (some a)) :: st) (h) = (am_p h a ci k (.inr (.inr (some q)))).bind fun h' => EV d M (es) (ls) (st) (h') := ev_bd rfl
theorem ev_putI {n ci k a : Nat} {r : List Nat} : EV d M ((pc, .putfield n, len, ci :: k :: 0 :: r, z) :: es) (ls) (.inl x :: .inr (.inr (some a)) :: st) (h) = (am_p h a ci k (.inl x)).bind fun h' => EV d M (es) (ls) (st) (h') := ev_bd (show (if (0 : Nat) = 0 ∨ ((0 : Nat) = 1 ∧ 0 ≤ x ∧ x < 2) then (am_p h a ci k (.inl x)).bind (fun h' => am_nx d M es ls st h') else none) = _ from if_pos (Or.inl rfl))
theorem ev_putZ {n ci k a : Nat} {r : List Nat} (h0 : 0 ≤ x) (h1 : x < 2) : EV d M ((pc, .putfield n, len, ci :: k :: 1 :: r, z) :: es) (ls) (.inl x :: .inr (.inr (some a)) :: st) (h) = (am_p h a ci k (.inl x)).bind fun h' => EV d M (es) (ls) (st) (h') := ev_bd (show (if (1 : Nat) = 0 ∨ ((1 : Nat) = 1 ∧ 0 ≤ x ∧ x < 2) then (am_p h a ci k (.inl x)).bind (fun h' => am_nx d M es ls st h') else none) = _ from if_pos (Or.inr ⟨rfl, h0, h1⟩))
theorem ev_putZg {n ci k a : Nat} {r : List Nat} : EV d M ((pc, .putfield n, len, ci :: k :: 1 :: r, z) :: es) (ls) (.inl x :: .inr (.inr (some a)) :: st) (h) = if 0 ≤ x ∧ x < 2 then (am_p h a ci k (.inl x)).bind (fun h' => EV d M (es) (ls) (st) (h')) else none := by
  by_cases g : 0 ≤ x ∧ x < 2
  · rw [if_pos g]; exact ev_putZ g.1 g.2
  · rw [if_neg g]; exact ev_no (show (if (1 : Nat) = 0 ∨ ((1 : Nat) = 1 ∧ 0 ≤ x ∧ x < 2) then (am_p h a ci k (.inl x)).bind (fun h' => am_nx d M es ls st h') else none) = _ from if_neg (fun q => q.elim (fun q => by cases q) (fun q => g q.2)))
theorem ev_iald {a : Nat} : EV d M ((pc, .iaload, len, os, z) :: es) (ls) (.inl x :: .inr (.inr (some a)) :: st) (h) = (am_lI h a x).bind fun q => EV d M (es) (ls) (.inl q :: st) (h) := by
  refine ev_bd ?_
  show ((am_lI h a x).map _).bind _ = _
  cases am_lI h a x <;> rfl
theorem ev_bald {a : Nat} : EV d M ((pc, .baload, len, os, z) :: es) (ls) (.inl x :: .inr (.inr (some a)) :: st) (h) = (am_lB h a x).bind fun q => EV d M (es) (ls) (.inl q :: st) (h) := by
  refine ev_bd ?_
  show ((am_lB h a x).map _).bind _ = _
  cases am_lB h a x <;> rfl
theorem ev_lald {a : Nat} : EV d M ((pc, .laload, len, os, z) :: es) (ls) (.inl x :: .inr (.inr (some a)) :: st) (h) = (am_lL h a x).bind fun q => EV d M (es) (ls) (.inr (.inl q) :: st) (h) := by
  refine ev_bd ?_
  show ((am_lL h a x).map _).bind _ = _
  cases am_lL h a x <;> rfl
theorem ev_aald {a : Nat} : EV d M ((pc, .aaload, len, os, z) :: es) (ls) (.inl x :: .inr (.inr (some a)) :: st) (h) = (am_lR h a x).bind fun q => EV d M (es) (ls) (.inr (.inr (some q)) :: st) (h) := by
  refine ev_bd ?_
  show ((am_lR h a x).map _).bind _ = _
  cases am_lR h a x <;> rfl
theorem ev_iast {a : Nat} : EV d M ((pc, .iastore, len, os, z) :: es) (ls) (.inl y :: .inl x :: .inr (.inr (some a)) :: st) (h) = (am_sI h a x y).bind fun h' => EV d M (es) (ls) (st) (h') := ev_bd rfl
theorem ev_bast {a : Nat} : EV d M ((pc, .bastore, len, os, z) :: es) (ls) (.inl y :: .inl x :: .inr (.inr (some a)) :: st) (h) = (am_sB h a x y).bind fun h' => EV d M (es) (ls) (st) (h') := ev_bd rfl
theorem ev_last {a : Nat} : EV d M ((pc, .lastore, len, os, z) :: es) (ls) (.inr (.inl y) :: .inl x :: .inr (.inr (some a)) :: st) (h) = (am_sL h a x y).bind fun h' => EV d M (es) (ls) (st) (h') := ev_bd rfl
theorem ev_aast {a : Nat} {q : Nat} : EV d M ((pc, .aastore, len, os, z) :: es) (ls) (.inr (.inr (some q)) :: .inl x :: .inr (.inr (some a)) :: st) (h) = (am_sR h a x q).bind fun h' => EV d M (es) (ls) (st) (h') := ev_bd rfl
theorem ev_alen {a : Nat} : EV d M ((pc, .arraylength, len, os, z) :: es) (ls) (.inr (.inr (some a)) :: st) (h) = (am_ln h a).bind fun q => EV d M (es) (ls) (.inl q :: st) (h) := ev_bd rfl
theorem ev_newa {at_ : ArrayType} {t : Nat} {r : List Nat} (h0 : 0 ≤ x) (h1 : x ≤ 100000) : EV d M ((pc, .newarray at_, len, t :: r, z) :: es) (ls) (.inl x :: st) (h) = EV d M (es) (ls) (.inr (.inr (some h.1.1)) :: st) (am_push h (am_na t x.toNat)) := ev_go (if_pos ⟨h0, h1⟩)
theorem ev_newaq {n : Nat} (h0 : 0 ≤ x) (h1 : x ≤ 100000) : EV d M ((pc, .anewarray n, len, os, z) :: es) (ls) (.inl x :: st) (h) = EV d M (es) (ls) (.inr (.inr (some h.1.1)) :: st) (am_push h (am_na 4 x.toNat)) := ev_go (if_pos ⟨h0, h1⟩)
theorem ev_new {n ci : Nat} {r : List Nat} : EV d M ((pc, .new n, len, ci :: r, z) :: es) (ls) (st) (h) = EV d M (es) (ls) (.inr (.inr (some h.1.1)) :: st) (am_push h (.inr (ci, am_df ci))) := ev_go rfl
theorem ev_bad_new {n : Nat} : EV d M ((pc, .new n, len, [], z) :: es) (ls) (st) (h) = none := ev_no rfl
theorem ev_bad_ldc {n : Nat} : EV d M ((pc, .ldc n, len, [], z) :: es) (ls) (st) (h) = none := ev_no rfl
theorem ev_bad_athrow : EV d M ((pc, .athrow, len, os, z) :: es) (ls) (st) (h) = none := ev_no rfl
theorem ev_obj {n a : Nat} {r : List Nat} (hc : am_cats st ≤ 8) : EV d M ((pc, .invokespecial n, len, 1 :: r, z) :: es) (ls) (.inr (.inr (some a)) :: st) (h) = EV d M (es) (ls) (st) (h) := ev_go (if_pos hc)
theorem ev_max {n : Nat} {r : List Nat} (hc : am_cats st ≤ 8) : EV d M ((pc, .invokestatic n, len, 2 :: r, z) :: es) (ls) (.inl y :: .inl x :: st) (h) = EV d M (es) (ls) (.inl (am_max x y) :: st) (h) := ev_go (if_pos hc)
theorem ev_min {n : Nat} {r : List Nat} (hc : am_cats st ≤ 8) : EV d M ((pc, .invokestatic n, len, 3 :: r, z) :: es) (ls) (.inl y :: .inl x :: st) (h) = EV d M (es) (ls) (.inl (am_min x y) :: st) (h) := ev_go (if_pos hc)
theorem ev_lmin {n : Nat} {r : List Nat} (hc : am_cats st ≤ 8) : EV d M ((pc, .invokestatic n, len, 4 :: r, z) :: es) (ls) (.inr (.inl y) :: .inr (.inl x) :: st) (h) = EV d M (es) (ls) (.inr (.inl (am_min x y)) :: st) (h) := ev_go (if_pos hc)
theorem ev_copy {n a a0 : Nat} {sp dp : Int} {r : List Nat} (hc : am_cats st ≤ 8) : EV d M ((pc, .invokestatic n, len, 5 :: r, z) :: es) (ls) (.inl x :: .inl dp :: .inr (.inr (some a)) :: .inl sp :: .inr (.inr (some a0)) :: st) (h) = (am_cp h a0 sp a dp x).bind fun h' => EV d M (es) (ls) (st) (h') := ev_bd (if_pos hc)
theorem ev_iret  : EV d M ((pc, .ireturn, len, os, 0) :: es) (ls) ([.inl x]) (h) = some (some (.inl x), h) := ev_dn (show (if (0 : Int) = 0 ∨ (0 ≤ x ∧ x < 2) then am_dn (some (.inl x)) h else none) = _ from if_pos (Or.inl rfl))
theorem ev_zret (hx : 0 ≤ x ∧ x < 2) : EV d M ((pc, .ireturn, len, os, z) :: es) (ls) ([.inl x]) (h) = some (some (.inl x), h) := ev_dn (show (if z = 0 ∨ (0 ≤ x ∧ x < 2) then am_dn (some (.inl x)) h else none) = _ from if_pos (Or.inr hx))
theorem ev_zretg (hz : (z == 0) = false := by rfl) : EV d M ((pc, .ireturn, len, os, z) :: es) (ls) ([.inl x]) (h) = if 0 ≤ x ∧ x < 2 then some (some (.inl x), h) else none := by
  by_cases g : 0 ≤ x ∧ x < 2
  · rw [if_pos g]; exact ev_zret g
  · rw [if_neg g]; exact ev_no (show (if z = 0 ∨ (0 ≤ x ∧ x < 2) then am_dn (some (.inl x)) h else none) = _ from if_neg (fun q => q.elim (fun q => by rw [q] at hz; cases hz) g))
theorem ev_lret  : EV d M ((pc, .lreturn, len, os, z) :: es) (ls) ([.inr (.inl x)]) (h) = some (some (.inr (.inl x)), h) := ev_dn rfl
theorem ev_aret {a : Nat} : EV d M ((pc, .areturn, len, os, z) :: es) (ls) ([.inr (.inr (some a))]) (h) = some (some (.inr (.inr (some a))), h) := ev_dn rfl
theorem ev_vret  : EV d M ((pc, .return_, len, os, z) :: es) (ls) ([]) (h) = some (none, h) := ev_dn rfl
theorem ev_cc {M' y0 : Nat} {X : am_X} {av rest : List am_V} {t : Nat} (hp : am_plan PG X = some (.inr (.inr ((d, y0, (PG.1 y0).1, am_entry av (PG.1 y0).2, [], h), am_ret (d + 1) M' es ls rest t)))) : am_ev PG X = (am_call d y0 av h).bind fun r => (am_ret (d + 1) M' es ls rest t r).bind (am_ev PG) := by
  rw [am_ev_eq, hp]
  rfl
theorem ev_r0 {M' : Nat} {rest : List am_V} {a : Option am_R} : (a.bind fun r => (am_ret (d + 1) M' es ls rest 0 r).bind (am_ev PG)) = (a.bind am_rV).bind fun h' => EV (d + 1) M' es ls rest h' := by
  cases a with
  | none => rfl
  | some r =>
    obtain ⟨v, h2⟩ := r
    rcases v with _ | v <;> rfl
theorem ev_r1 {M' : Nat} {rest : List am_V} {a : Option am_R} : (a.bind fun r => (am_ret (d + 1) M' es ls rest 1 r).bind (am_ev PG)) = (a.bind am_rI).bind fun r => EV (d + 1) M' es ls (.inl r.1 :: rest) r.2 := by
  cases a with
  | none => rfl
  | some r =>
    obtain ⟨v, h2⟩ := r
    rcases v with _ | v | v | _ | v <;> rfl
theorem ev_r2 {M' : Nat} {rest : List am_V} {a : Option am_R} : (a.bind fun r => (am_ret (d + 1) M' es ls rest 2 r).bind (am_ev PG)) = (a.bind am_rL).bind fun r => EV (d + 1) M' es ls (.inr (.inl r.1) :: rest) r.2 := by
  cases a with
  | none => rfl
  | some r =>
    obtain ⟨v, h2⟩ := r
    rcases v with _ | v | v | _ | v <;> rfl
theorem ev_r3 {M' : Nat} {rest : List am_V} {a : Option am_R} : (a.bind fun r => (am_ret (d + 1) M' es ls rest 3 r).bind (am_ev PG)) = (a.bind am_rR).bind fun r => EV (d + 1) M' es ls (.inr (.inr (some r.1)) :: rest) r.2 := by
  cases a with
  | none => rfl
  | some r =>
    obtain ⟨v, h2⟩ := r
    rcases v with _ | v | v | _ | v <;> rfl
theorem ev_callVs {k y0 n : Nat} {r : List Nat} {av rest : List am_V} (ha : (st.take n).reverse = av) (hr : st.drop n = rest) (hn : n ≤ st.length) (hc : am_cats rest ≤ 8) (hs : (am_sl av).length ≤ (PG.1 y0).2) : EV (d + 1) M ((pc, .invokestatic k, len, 0 :: y0 :: n :: 0 :: 0 :: r, z) :: es) ls st h = (am_cV d y0 av h).bind fun h' => EV (d + 1) M es ls rest h' := by
  subst ha; subst hr
  exact (ev_cc (X := (d + 1, M, (pc, .invokestatic k, len, 0 :: y0 :: n :: 0 :: 0 :: r, z) :: es, ls, st, h)) (M' := M) (show (if am_rcv h 0 (st.take n).reverse = true ∧ n ≤ st.length ∧ am_cats (st.drop n) ≤ 8 ∧ (am_sl (st.take n).reverse).length ≤ (PG.1 y0).2 then (some (.inr (.inr ((d, y0, (PG.1 y0).1, am_entry (st.take n).reverse (PG.1 y0).2, [], h), am_ret (d + 1) M es ls (st.drop n) 0))) : Option am_O) else none) = _ from if_pos ⟨rfl, hn, hc, hs⟩)).trans ev_r0
theorem ev_callVi {k y0 n : Nat} {r : List Nat} {av rest : List am_V} (ha : (st.take n).reverse = av) (hr : st.drop n = rest) (hn : n ≤ st.length) (hc : am_cats rest ≤ 8) (hs : (am_sl av).length ≤ (PG.1 y0).2) (hh : am_rcv h 100 av = true := by rfl) : EV (d + 1) M ((pc, .invokespecial k, len, 0 :: y0 :: n :: 0 :: 100 :: r, z) :: es) ls st h = (am_cV d y0 av h).bind fun h' => EV (d + 1) M es ls rest h' := by
  subst ha; subst hr
  exact (ev_cc (X := (d + 1, M, (pc, .invokespecial k, len, 0 :: y0 :: n :: 0 :: 100 :: r, z) :: es, ls, st, h)) (M' := M) (show (if am_rcv h 100 (st.take n).reverse = true ∧ n ≤ st.length ∧ am_cats (st.drop n) ≤ 8 ∧ (am_sl (st.take n).reverse).length ≤ (PG.1 y0).2 then (some (.inr (.inr ((d, y0, (PG.1 y0).1, am_entry (st.take n).reverse (PG.1 y0).2, [], h), am_ret (d + 1) M es ls (st.drop n) 0))) : Option am_O) else none) = _ from if_pos ⟨hh, hn, hc, hs⟩)).trans ev_r0
theorem ev_callVv {c a : Nat} {k y0 n : Nat} {r : List Nat} {av rest : List am_V} (ha : (st.take n).reverse = av) (hr : st.drop n = rest) (hn : n ≤ st.length) (hc : am_cats rest ≤ 8) (hs : (am_sl av).length ≤ (PG.1 y0).2) (hav : am_rcv h (c + 1) av = am_isO h a c := by rfl) : EV (d + 1) M ((pc, .invokevirtual k, len, 0 :: y0 :: n :: 0 :: (c + 1) :: r, z) :: es) ls st h = if am_isO h a c = true then (am_cV d y0 av h).bind (fun h' => EV (d + 1) M es ls rest h') else none := by
  subst ha; subst hr
  by_cases g : am_isO h a c = true
  · rw [if_pos g]; exact (ev_cc (X := (d + 1, M, (pc, .invokevirtual k, len, 0 :: y0 :: n :: 0 :: (c + 1) :: r, z) :: es, ls, st, h)) (M' := M) (show (if am_rcv h (c + 1) (st.take n).reverse = true ∧ n ≤ st.length ∧ am_cats (st.drop n) ≤ 8 ∧ (am_sl (st.take n).reverse).length ≤ (PG.1 y0).2 then (some (.inr (.inr ((d, y0, (PG.1 y0).1, am_entry (st.take n).reverse (PG.1 y0).2, [], h), am_ret (d + 1) M es ls (st.drop n) 0))) : Option am_O) else none) = _ from if_pos ⟨hav.trans g, hn, hc, hs⟩)).trans ev_r0
  · rw [if_neg g]; exact ev_no (show (if am_rcv h (c + 1) (st.take n).reverse = true ∧ n ≤ st.length ∧ am_cats (st.drop n) ≤ 8 ∧ (am_sl (st.take n).reverse).length ≤ (PG.1 y0).2 then (some (.inr (.inr ((d, y0, (PG.1 y0).1, am_entry (st.take n).reverse (PG.1 y0).2, [], h), am_ret (d + 1) M es ls (st.drop n) 0))) : Option am_O) else none) = _ from if_neg (fun q => g (hav.symm.trans q.1)))
theorem ev_callIs {k y0 n : Nat} {r : List Nat} {av rest : List am_V} (ha : (st.take n).reverse = av) (hr : st.drop n = rest) (hn : n ≤ st.length) (hc : am_cats rest ≤ 8) (hs : (am_sl av).length ≤ (PG.1 y0).2) : EV (d + 1) M ((pc, .invokestatic k, len, 0 :: y0 :: n :: 1 :: 0 :: r, z) :: es) ls st h = (am_cI d y0 av h).bind fun r => EV (d + 1) M es ls (.inl r.1 :: rest) r.2 := by
  subst ha; subst hr
  exact (ev_cc (X := (d + 1, M, (pc, .invokestatic k, len, 0 :: y0 :: n :: 1 :: 0 :: r, z) :: es, ls, st, h)) (M' := M) (show (if am_rcv h 0 (st.take n).reverse = true ∧ n ≤ st.length ∧ am_cats (st.drop n) ≤ 8 ∧ (am_sl (st.take n).reverse).length ≤ (PG.1 y0).2 then (some (.inr (.inr ((d, y0, (PG.1 y0).1, am_entry (st.take n).reverse (PG.1 y0).2, [], h), am_ret (d + 1) M es ls (st.drop n) 1))) : Option am_O) else none) = _ from if_pos ⟨rfl, hn, hc, hs⟩)).trans ev_r1
theorem ev_callIi {k y0 n : Nat} {r : List Nat} {av rest : List am_V} (ha : (st.take n).reverse = av) (hr : st.drop n = rest) (hn : n ≤ st.length) (hc : am_cats rest ≤ 8) (hs : (am_sl av).length ≤ (PG.1 y0).2) (hh : am_rcv h 100 av = true := by rfl) : EV (d + 1) M ((pc, .invokespecial k, len, 0 :: y0 :: n :: 1 :: 100 :: r, z) :: es) ls st h = (am_cI d y0 av h).bind fun r => EV (d + 1) M es ls (.inl r.1 :: rest) r.2 := by
  subst ha; subst hr
  exact (ev_cc (X := (d + 1, M, (pc, .invokespecial k, len, 0 :: y0 :: n :: 1 :: 100 :: r, z) :: es, ls, st, h)) (M' := M) (show (if am_rcv h 100 (st.take n).reverse = true ∧ n ≤ st.length ∧ am_cats (st.drop n) ≤ 8 ∧ (am_sl (st.take n).reverse).length ≤ (PG.1 y0).2 then (some (.inr (.inr ((d, y0, (PG.1 y0).1, am_entry (st.take n).reverse (PG.1 y0).2, [], h), am_ret (d + 1) M es ls (st.drop n) 1))) : Option am_O) else none) = _ from if_pos ⟨hh, hn, hc, hs⟩)).trans ev_r1
theorem ev_callIv {c a : Nat} {k y0 n : Nat} {r : List Nat} {av rest : List am_V} (ha : (st.take n).reverse = av) (hr : st.drop n = rest) (hn : n ≤ st.length) (hc : am_cats rest ≤ 8) (hs : (am_sl av).length ≤ (PG.1 y0).2) (hav : am_rcv h (c + 1) av = am_isO h a c := by rfl) : EV (d + 1) M ((pc, .invokevirtual k, len, 0 :: y0 :: n :: 1 :: (c + 1) :: r, z) :: es) ls st h = if am_isO h a c = true then (am_cI d y0 av h).bind (fun r => EV (d + 1) M es ls (.inl r.1 :: rest) r.2) else none := by
  subst ha; subst hr
  by_cases g : am_isO h a c = true
  · rw [if_pos g]; exact (ev_cc (X := (d + 1, M, (pc, .invokevirtual k, len, 0 :: y0 :: n :: 1 :: (c + 1) :: r, z) :: es, ls, st, h)) (M' := M) (show (if am_rcv h (c + 1) (st.take n).reverse = true ∧ n ≤ st.length ∧ am_cats (st.drop n) ≤ 8 ∧ (am_sl (st.take n).reverse).length ≤ (PG.1 y0).2 then (some (.inr (.inr ((d, y0, (PG.1 y0).1, am_entry (st.take n).reverse (PG.1 y0).2, [], h), am_ret (d + 1) M es ls (st.drop n) 1))) : Option am_O) else none) = _ from if_pos ⟨hav.trans g, hn, hc, hs⟩)).trans ev_r1
  · rw [if_neg g]; exact ev_no (show (if am_rcv h (c + 1) (st.take n).reverse = true ∧ n ≤ st.length ∧ am_cats (st.drop n) ≤ 8 ∧ (am_sl (st.take n).reverse).length ≤ (PG.1 y0).2 then (some (.inr (.inr ((d, y0, (PG.1 y0).1, am_entry (st.take n).reverse (PG.1 y0).2, [], h), am_ret (d + 1) M es ls (st.drop n) 1))) : Option am_O) else none) = _ from if_neg (fun q => g (hav.symm.trans q.1)))
theorem ev_callLs {k y0 n : Nat} {r : List Nat} {av rest : List am_V} (ha : (st.take n).reverse = av) (hr : st.drop n = rest) (hn : n ≤ st.length) (hc : am_cats rest ≤ 8) (hs : (am_sl av).length ≤ (PG.1 y0).2) : EV (d + 1) M ((pc, .invokestatic k, len, 0 :: y0 :: n :: 2 :: 0 :: r, z) :: es) ls st h = (am_cL d y0 av h).bind fun r => EV (d + 1) M es ls (.inr (.inl r.1) :: rest) r.2 := by
  subst ha; subst hr
  exact (ev_cc (X := (d + 1, M, (pc, .invokestatic k, len, 0 :: y0 :: n :: 2 :: 0 :: r, z) :: es, ls, st, h)) (M' := M) (show (if am_rcv h 0 (st.take n).reverse = true ∧ n ≤ st.length ∧ am_cats (st.drop n) ≤ 8 ∧ (am_sl (st.take n).reverse).length ≤ (PG.1 y0).2 then (some (.inr (.inr ((d, y0, (PG.1 y0).1, am_entry (st.take n).reverse (PG.1 y0).2, [], h), am_ret (d + 1) M es ls (st.drop n) 2))) : Option am_O) else none) = _ from if_pos ⟨rfl, hn, hc, hs⟩)).trans ev_r2
theorem ev_callLi {k y0 n : Nat} {r : List Nat} {av rest : List am_V} (ha : (st.take n).reverse = av) (hr : st.drop n = rest) (hn : n ≤ st.length) (hc : am_cats rest ≤ 8) (hs : (am_sl av).length ≤ (PG.1 y0).2) (hh : am_rcv h 100 av = true := by rfl) : EV (d + 1) M ((pc, .invokespecial k, len, 0 :: y0 :: n :: 2 :: 100 :: r, z) :: es) ls st h = (am_cL d y0 av h).bind fun r => EV (d + 1) M es ls (.inr (.inl r.1) :: rest) r.2 := by
  subst ha; subst hr
  exact (ev_cc (X := (d + 1, M, (pc, .invokespecial k, len, 0 :: y0 :: n :: 2 :: 100 :: r, z) :: es, ls, st, h)) (M' := M) (show (if am_rcv h 100 (st.take n).reverse = true ∧ n ≤ st.length ∧ am_cats (st.drop n) ≤ 8 ∧ (am_sl (st.take n).reverse).length ≤ (PG.1 y0).2 then (some (.inr (.inr ((d, y0, (PG.1 y0).1, am_entry (st.take n).reverse (PG.1 y0).2, [], h), am_ret (d + 1) M es ls (st.drop n) 2))) : Option am_O) else none) = _ from if_pos ⟨hh, hn, hc, hs⟩)).trans ev_r2
theorem ev_callLv {c a : Nat} {k y0 n : Nat} {r : List Nat} {av rest : List am_V} (ha : (st.take n).reverse = av) (hr : st.drop n = rest) (hn : n ≤ st.length) (hc : am_cats rest ≤ 8) (hs : (am_sl av).length ≤ (PG.1 y0).2) (hav : am_rcv h (c + 1) av = am_isO h a c := by rfl) : EV (d + 1) M ((pc, .invokevirtual k, len, 0 :: y0 :: n :: 2 :: (c + 1) :: r, z) :: es) ls st h = if am_isO h a c = true then (am_cL d y0 av h).bind (fun r => EV (d + 1) M es ls (.inr (.inl r.1) :: rest) r.2) else none := by
  subst ha; subst hr
  by_cases g : am_isO h a c = true
  · rw [if_pos g]; exact (ev_cc (X := (d + 1, M, (pc, .invokevirtual k, len, 0 :: y0 :: n :: 2 :: (c + 1) :: r, z) :: es, ls, st, h)) (M' := M) (show (if am_rcv h (c + 1) (st.take n).reverse = true ∧ n ≤ st.length ∧ am_cats (st.drop n) ≤ 8 ∧ (am_sl (st.take n).reverse).length ≤ (PG.1 y0).2 then (some (.inr (.inr ((d, y0, (PG.1 y0).1, am_entry (st.take n).reverse (PG.1 y0).2, [], h), am_ret (d + 1) M es ls (st.drop n) 2))) : Option am_O) else none) = _ from if_pos ⟨hav.trans g, hn, hc, hs⟩)).trans ev_r2
  · rw [if_neg g]; exact ev_no (show (if am_rcv h (c + 1) (st.take n).reverse = true ∧ n ≤ st.length ∧ am_cats (st.drop n) ≤ 8 ∧ (am_sl (st.take n).reverse).length ≤ (PG.1 y0).2 then (some (.inr (.inr ((d, y0, (PG.1 y0).1, am_entry (st.take n).reverse (PG.1 y0).2, [], h), am_ret (d + 1) M es ls (st.drop n) 2))) : Option am_O) else none) = _ from if_neg (fun q => g (hav.symm.trans q.1)))
theorem ev_callRs {k y0 n : Nat} {r : List Nat} {av rest : List am_V} (ha : (st.take n).reverse = av) (hr : st.drop n = rest) (hn : n ≤ st.length) (hc : am_cats rest ≤ 8) (hs : (am_sl av).length ≤ (PG.1 y0).2) : EV (d + 1) M ((pc, .invokestatic k, len, 0 :: y0 :: n :: 3 :: 0 :: r, z) :: es) ls st h = (am_cR d y0 av h).bind fun r => EV (d + 1) M es ls (.inr (.inr (some r.1)) :: rest) r.2 := by
  subst ha; subst hr
  exact (ev_cc (X := (d + 1, M, (pc, .invokestatic k, len, 0 :: y0 :: n :: 3 :: 0 :: r, z) :: es, ls, st, h)) (M' := M) (show (if am_rcv h 0 (st.take n).reverse = true ∧ n ≤ st.length ∧ am_cats (st.drop n) ≤ 8 ∧ (am_sl (st.take n).reverse).length ≤ (PG.1 y0).2 then (some (.inr (.inr ((d, y0, (PG.1 y0).1, am_entry (st.take n).reverse (PG.1 y0).2, [], h), am_ret (d + 1) M es ls (st.drop n) 3))) : Option am_O) else none) = _ from if_pos ⟨rfl, hn, hc, hs⟩)).trans ev_r3
theorem ev_callRi {k y0 n : Nat} {r : List Nat} {av rest : List am_V} (ha : (st.take n).reverse = av) (hr : st.drop n = rest) (hn : n ≤ st.length) (hc : am_cats rest ≤ 8) (hs : (am_sl av).length ≤ (PG.1 y0).2) (hh : am_rcv h 100 av = true := by rfl) : EV (d + 1) M ((pc, .invokespecial k, len, 0 :: y0 :: n :: 3 :: 100 :: r, z) :: es) ls st h = (am_cR d y0 av h).bind fun r => EV (d + 1) M es ls (.inr (.inr (some r.1)) :: rest) r.2 := by
  subst ha; subst hr
  exact (ev_cc (X := (d + 1, M, (pc, .invokespecial k, len, 0 :: y0 :: n :: 3 :: 100 :: r, z) :: es, ls, st, h)) (M' := M) (show (if am_rcv h 100 (st.take n).reverse = true ∧ n ≤ st.length ∧ am_cats (st.drop n) ≤ 8 ∧ (am_sl (st.take n).reverse).length ≤ (PG.1 y0).2 then (some (.inr (.inr ((d, y0, (PG.1 y0).1, am_entry (st.take n).reverse (PG.1 y0).2, [], h), am_ret (d + 1) M es ls (st.drop n) 3))) : Option am_O) else none) = _ from if_pos ⟨hh, hn, hc, hs⟩)).trans ev_r3
theorem ev_callRv {c a : Nat} {k y0 n : Nat} {r : List Nat} {av rest : List am_V} (ha : (st.take n).reverse = av) (hr : st.drop n = rest) (hn : n ≤ st.length) (hc : am_cats rest ≤ 8) (hs : (am_sl av).length ≤ (PG.1 y0).2) (hav : am_rcv h (c + 1) av = am_isO h a c := by rfl) : EV (d + 1) M ((pc, .invokevirtual k, len, 0 :: y0 :: n :: 3 :: (c + 1) :: r, z) :: es) ls st h = if am_isO h a c = true then (am_cR d y0 av h).bind (fun r => EV (d + 1) M es ls (.inr (.inr (some r.1)) :: rest) r.2) else none := by
  subst ha; subst hr
  by_cases g : am_isO h a c = true
  · rw [if_pos g]; exact (ev_cc (X := (d + 1, M, (pc, .invokevirtual k, len, 0 :: y0 :: n :: 3 :: (c + 1) :: r, z) :: es, ls, st, h)) (M' := M) (show (if am_rcv h (c + 1) (st.take n).reverse = true ∧ n ≤ st.length ∧ am_cats (st.drop n) ≤ 8 ∧ (am_sl (st.take n).reverse).length ≤ (PG.1 y0).2 then (some (.inr (.inr ((d, y0, (PG.1 y0).1, am_entry (st.take n).reverse (PG.1 y0).2, [], h), am_ret (d + 1) M es ls (st.drop n) 3))) : Option am_O) else none) = _ from if_pos ⟨hav.trans g, hn, hc, hs⟩)).trans ev_r3
  · rw [if_neg g]; exact ev_no (show (if am_rcv h (c + 1) (st.take n).reverse = true ∧ n ≤ st.length ∧ am_cats (st.drop n) ≤ 8 ∧ (am_sl (st.take n).reverse).length ≤ (PG.1 y0).2 then (some (.inr (.inr ((d, y0, (PG.1 y0).1, am_entry (st.take n).reverse (PG.1 y0).2, [], h), am_ret (d + 1) M es ls (st.drop n) 3))) : Option am_O) else none) = _ from if_neg (fun q => g (hav.symm.trans q.1)))
end EVS
