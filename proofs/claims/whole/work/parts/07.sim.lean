/-! one instruction of the small machine is one of the real one (by wip/whole/sim.py) -/
def am_Gl (p : Program) (l : Launch) (e : Env) (R : Room) (s : State) (m : MethodId) (args : Array Value) (below : List Frame) (meth : Method) (c : Code) (Q : State → Prop) (D : va_G) (tA : Nat → ClassId) (b B0 L : Nat) (xs : Nat → Int32) (a0 : Nat → Nat) (cE sE M : Nat) (es : List am_I) (ls st : List am_V) (h : am_H) : Prop :=
  ∀ (pc : Nat) (ad : Nat → Nat) (lsC : Array Slot) (H : Heap) (locs : List Loc), (∀ x, es.head? = some x → x.1 = pc) → am_chk M es = true → am_Re s D tA b B0 L xs a0 (am_mi M).2.2.1 cE sE ad h H locs ls lsC st → W p l e R s m args below meth c H locs (h.1.1 - cE) (h.1.2 - sE) Q (F0 m pc lsC (st.map (am_cv ad)))
section AMS
variable {p : Program} {l : Launch} {e : Env} {R : Room} {s : State} {m : MethodId} {args : Array Value} {below : List Frame} {meth : Method} {c : Code} {Q : State → Prop} {D : va_G} {tA : Nat → ClassId} {b B0 L : Nat} {xs : Nat → Int32} {a0 : Nat → Nat} {cE sE M : Nat}
variable {pc len k : Nat} {os : List Nat} {z x y : Int} {es : List am_I} {ls st : List am_V} {h : am_H}
theorem am_s_iload (C : am_Cx p s m args meth c D tA b B0 L xs M) (hl : ls[(k : Nat)]? = some (.inl x)) (K : am_Gl p l e R s m args below meth c Q D tA b B0 L xs a0 cE sE M (es) (ls) (.inl x :: st) (h)) : am_Gl p l e R s m args below meth c Q D tA b B0 L xs a0 cE sE M ((pc, .iload k, len, os, z) :: es) (ls) (st) (h) := by
  intro pc0 ad lsC H locs hpc hchk hRe
  have hpc := hpc _ rfl
  dsimp only at hpc
  subst hpc
  obtain ⟨hdec, hlk, -, hnx, hck⟩ := am_chk_cons hchk rfl
  obtain rfl : len = 2 := by simpa [am_okL] using hlk
  obtain ⟨hx, hb, hr, hml, hown, hts, hlocks, hname, hK, hX, hb0, hB0, hL⟩ := id C
  have hnx := hnx.resolve_left (by simp [am_uncond])
  refine lv_iload hx hb hdec (hRe.LR.2.2 _ _ hl (by simp [am_nul])) ?_
  exact K (pc + 2) ad lsC H locs hnx hck (hRe.push (hRe.okls _ (List.mem_of_getElem? hl)) (fun _ h => h))
theorem am_s_iload_n (C : am_Cx p s m args meth c D tA b B0 L xs M) {k : Fin 4} (hl : ls[(k : Nat)]? = some (.inl x)) (K : am_Gl p l e R s m args below meth c Q D tA b B0 L xs a0 cE sE M (es) (ls) (.inl x :: st) (h)) : am_Gl p l e R s m args below meth c Q D tA b B0 L xs a0 cE sE M ((pc, .iload_n k, len, os, z) :: es) (ls) (st) (h) := by
  intro pc0 ad lsC H locs hpc hchk hRe
  have hpc := hpc _ rfl
  dsimp only at hpc
  subst hpc
  obtain ⟨hdec, hlk, -, hnx, hck⟩ := am_chk_cons hchk rfl
  obtain rfl : len = 1 := by simpa [am_okL] using hlk
  obtain ⟨hx, hb, hr, hml, hown, hts, hlocks, hname, hK, hX, hb0, hB0, hL⟩ := id C
  have hnx := hnx.resolve_left (by simp [am_uncond])
  refine lv_iload_n hx hb hdec rfl (hRe.LR.2.2 _ _ hl (by simp [am_nul])) ?_
  exact K (pc + 1) ad lsC H locs hnx hck (hRe.push (hRe.okls _ (List.mem_of_getElem? hl)) (fun _ h => h))
theorem am_s_lload (C : am_Cx p s m args meth c D tA b B0 L xs M) (hl : ls[(k : Nat)]? = some (.inr (.inl x))) (K : am_Gl p l e R s m args below meth c Q D tA b B0 L xs a0 cE sE M (es) (ls) (.inr (.inl x) :: st) (h)) : am_Gl p l e R s m args below meth c Q D tA b B0 L xs a0 cE sE M ((pc, .lload k, len, os, z) :: es) (ls) (st) (h) := by
  intro pc0 ad lsC H locs hpc hchk hRe
  have hpc := hpc _ rfl
  dsimp only at hpc
  subst hpc
  obtain ⟨hdec, hlk, -, hnx, hck⟩ := am_chk_cons hchk rfl
  obtain rfl : len = 2 := by simpa [am_okL] using hlk
  obtain ⟨hx, hb, hr, hml, hown, hts, hlocks, hname, hK, hX, hb0, hB0, hL⟩ := id C
  have hnx := hnx.resolve_left (by simp [am_uncond])
  refine lv_lload hx hb hdec (hRe.LR.2.2 _ _ hl (by simp [am_nul])) ?_
  exact K (pc + 2) ad lsC H locs hnx hck (hRe.push (hRe.okls _ (List.mem_of_getElem? hl)) (fun _ h => h))
theorem am_s_lload_n (C : am_Cx p s m args meth c D tA b B0 L xs M) {k : Fin 4} (hl : ls[(k : Nat)]? = some (.inr (.inl x))) (K : am_Gl p l e R s m args below meth c Q D tA b B0 L xs a0 cE sE M (es) (ls) (.inr (.inl x) :: st) (h)) : am_Gl p l e R s m args below meth c Q D tA b B0 L xs a0 cE sE M ((pc, .lload_n k, len, os, z) :: es) (ls) (st) (h) := by
  intro pc0 ad lsC H locs hpc hchk hRe
  have hpc := hpc _ rfl
  dsimp only at hpc
  subst hpc
  obtain ⟨hdec, hlk, -, hnx, hck⟩ := am_chk_cons hchk rfl
  obtain rfl : len = 1 := by simpa [am_okL] using hlk
  obtain ⟨hx, hb, hr, hml, hown, hts, hlocks, hname, hK, hX, hb0, hB0, hL⟩ := id C
  have hnx := hnx.resolve_left (by simp [am_uncond])
  refine lv_lload_n hx hb hdec rfl (hRe.LR.2.2 _ _ hl (by simp [am_nul])) ?_
  exact K (pc + 1) ad lsC H locs hnx hck (hRe.push (hRe.okls _ (List.mem_of_getElem? hl)) (fun _ h => h))
theorem am_s_aload (C : am_Cx p s m args meth c D tA b B0 L xs M) {q : Nat} (hl : ls[(k : Nat)]? = some (.inr (.inr (some q)))) (K : am_Gl p l e R s m args below meth c Q D tA b B0 L xs a0 cE sE M (es) (ls) (.inr (.inr (some q)) :: st) (h)) : am_Gl p l e R s m args below meth c Q D tA b B0 L xs a0 cE sE M ((pc, .aload k, len, os, z) :: es) (ls) (st) (h) := by
  intro pc0 ad lsC H locs hpc hchk hRe
  have hpc := hpc _ rfl
  dsimp only at hpc
  subst hpc
  obtain ⟨hdec, hlk, -, hnx, hck⟩ := am_chk_cons hchk rfl
  obtain rfl : len = 2 := by simpa [am_okL] using hlk
  obtain ⟨hx, hb, hr, hml, hown, hts, hlocks, hname, hK, hX, hb0, hB0, hL⟩ := id C
  have hnx := hnx.resolve_left (by simp [am_uncond])
  refine lv_aload hx hb hdec (hRe.LR.2.2 _ _ hl (by simp [am_nul])) ?_
  exact K (pc + 2) ad lsC H locs hnx hck (hRe.push (hRe.okls _ (List.mem_of_getElem? hl)) (fun _ h => h))
theorem am_s_aload_n (C : am_Cx p s m args meth c D tA b B0 L xs M) {k : Fin 4} {q : Nat} (hl : ls[(k : Nat)]? = some (.inr (.inr (some q)))) (K : am_Gl p l e R s m args below meth c Q D tA b B0 L xs a0 cE sE M (es) (ls) (.inr (.inr (some q)) :: st) (h)) : am_Gl p l e R s m args below meth c Q D tA b B0 L xs a0 cE sE M ((pc, .aload_n k, len, os, z) :: es) (ls) (st) (h) := by
  intro pc0 ad lsC H locs hpc hchk hRe
  have hpc := hpc _ rfl
  dsimp only at hpc
  subst hpc
  obtain ⟨hdec, hlk, -, hnx, hck⟩ := am_chk_cons hchk rfl
  obtain rfl : len = 1 := by simpa [am_okL] using hlk
  obtain ⟨hx, hb, hr, hml, hown, hts, hlocks, hname, hK, hX, hb0, hB0, hL⟩ := id C
  have hnx := hnx.resolve_left (by simp [am_uncond])
  refine lv_aload_n hx hb hdec rfl (hRe.LR.2.2 _ _ hl (by simp [am_nul])) ?_
  exact K (pc + 1) ad lsC H locs hnx hck (hRe.push (hRe.okls _ (List.mem_of_getElem? hl)) (fun _ h => h))
theorem am_s_istore (C : am_Cx p s m args meth c D tA b B0 L xs M) (hk : (k : Nat) < ls.length) (K : am_Gl p l e R s m args below meth c Q D tA b B0 L xs a0 cE sE M (es) (am_st1 ls k (.inl x)) (st) (h)) : am_Gl p l e R s m args below meth c Q D tA b B0 L xs a0 cE sE M ((pc, .istore k, len, os, z) :: es) (ls) (.inl x :: st) (h) := by
  intro pc0 ad lsC H locs hpc hchk hRe
  have hpc := hpc _ rfl
  dsimp only at hpc
  subst hpc
  obtain ⟨hdec, hlk, -, hnx, hck⟩ := am_chk_cons hchk rfl
  obtain rfl : len = 2 := by simpa [am_okL] using hlk
  obtain ⟨hx, hb, hr, hml, hown, hts, hlocks, hname, hK, hX, hb0, hB0, hL⟩ := id C
  have hnx := hnx.resolve_left (by simp [am_uncond])
  refine lv_istore hx hb hdec hRe.LR.has hk rfl (fun ls' hl' => ?_)
  exact K (pc + 2) ad ls' H locs hnx hck (hRe.locals (am_LR.st1 (v := .inl x) hl') (am_st1_len _ _ _) (am_st1_ok hRe.okls _ (hRe.okst _ List.mem_cons_self)) (fun w hw => hRe.okst _ (List.mem_cons_of_mem _ hw)))
theorem am_s_istore_n (C : am_Cx p s m args meth c D tA b B0 L xs M) {k : Fin 4} (hk : (k : Nat) < ls.length) (K : am_Gl p l e R s m args below meth c Q D tA b B0 L xs a0 cE sE M (es) (am_st1 ls k (.inl x)) (st) (h)) : am_Gl p l e R s m args below meth c Q D tA b B0 L xs a0 cE sE M ((pc, .istore_n k, len, os, z) :: es) (ls) (.inl x :: st) (h) := by
  intro pc0 ad lsC H locs hpc hchk hRe
  have hpc := hpc _ rfl
  dsimp only at hpc
  subst hpc
  obtain ⟨hdec, hlk, -, hnx, hck⟩ := am_chk_cons hchk rfl
  obtain rfl : len = 1 := by simpa [am_okL] using hlk
  obtain ⟨hx, hb, hr, hml, hown, hts, hlocks, hname, hK, hX, hb0, hB0, hL⟩ := id C
  have hnx := hnx.resolve_left (by simp [am_uncond])
  refine lv_istore_n hx hb hdec rfl hRe.LR.has hk rfl (fun ls' hl' => ?_)
  exact K (pc + 1) ad ls' H locs hnx hck (hRe.locals (am_LR.st1 (v := .inl x) hl') (am_st1_len _ _ _) (am_st1_ok hRe.okls _ (hRe.okst _ List.mem_cons_self)) (fun w hw => hRe.okst _ (List.mem_cons_of_mem _ hw)))
theorem am_s_astore (C : am_Cx p s m args meth c D tA b B0 L xs M) {q : Nat} (hk : (k : Nat) < ls.length) (K : am_Gl p l e R s m args below meth c Q D tA b B0 L xs a0 cE sE M (es) (am_st1 ls k (.inr (.inr (some q)))) (st) (h)) : am_Gl p l e R s m args below meth c Q D tA b B0 L xs a0 cE sE M ((pc, .astore k, len, os, z) :: es) (ls) (.inr (.inr (some q)) :: st) (h) := by
  intro pc0 ad lsC H locs hpc hchk hRe
  have hpc := hpc _ rfl
  dsimp only at hpc
  subst hpc
  obtain ⟨hdec, hlk, -, hnx, hck⟩ := am_chk_cons hchk rfl
  obtain rfl : len = 2 := by simpa [am_okL] using hlk
  obtain ⟨hx, hb, hr, hml, hown, hts, hlocks, hname, hK, hX, hb0, hB0, hL⟩ := id C
  have hnx := hnx.resolve_left (by simp [am_uncond])
  refine lv_astore hx hb hdec hRe.LR.has hk rfl (fun ls' hl' => ?_)
  exact K (pc + 2) ad ls' H locs hnx hck (hRe.locals (am_LR.st1 (v := .inr (.inr (some q))) hl') (am_st1_len _ _ _) (am_st1_ok hRe.okls _ (hRe.okst _ List.mem_cons_self)) (fun w hw => hRe.okst _ (List.mem_cons_of_mem _ hw)))
theorem am_s_astore_n (C : am_Cx p s m args meth c D tA b B0 L xs M) {k : Fin 4} {q : Nat} (hk : (k : Nat) < ls.length) (K : am_Gl p l e R s m args below meth c Q D tA b B0 L xs a0 cE sE M (es) (am_st1 ls k (.inr (.inr (some q)))) (st) (h)) : am_Gl p l e R s m args below meth c Q D tA b B0 L xs a0 cE sE M ((pc, .astore_n k, len, os, z) :: es) (ls) (.inr (.inr (some q)) :: st) (h) := by
  intro pc0 ad lsC H locs hpc hchk hRe
  have hpc := hpc _ rfl
  dsimp only at hpc
  subst hpc
  obtain ⟨hdec, hlk, -, hnx, hck⟩ := am_chk_cons hchk rfl
  obtain rfl : len = 1 := by simpa [am_okL] using hlk
  obtain ⟨hx, hb, hr, hml, hown, hts, hlocks, hname, hK, hX, hb0, hB0, hL⟩ := id C
  have hnx := hnx.resolve_left (by simp [am_uncond])
  refine lv_astore_n hx hb hdec rfl hRe.LR.has hk rfl (fun ls' hl' => ?_)
  exact K (pc + 1) ad ls' H locs hnx hck (hRe.locals (am_LR.st1 (v := .inr (.inr (some q))) hl') (am_st1_len _ _ _) (am_st1_ok hRe.okls _ (hRe.okst _ List.mem_cons_self)) (fun w hw => hRe.okst _ (List.mem_cons_of_mem _ hw)))
theorem am_s_lstore (C : am_Cx p s m args meth c D tA b B0 L xs M) (hk : (k : Nat) + 1 < ls.length) (K : am_Gl p l e R s m args below meth c Q D tA b B0 L xs a0 cE sE M (es) (am_st2 ls k (.inr (.inl x))) (st) (h)) : am_Gl p l e R s m args below meth c Q D tA b B0 L xs a0 cE sE M ((pc, .lstore k, len, os, z) :: es) (ls) (.inr (.inl x) :: st) (h) := by
  intro pc0 ad lsC H locs hpc hchk hRe
  have hpc := hpc _ rfl
  dsimp only at hpc
  subst hpc
  obtain ⟨hdec, hlk, -, hnx, hck⟩ := am_chk_cons hchk rfl
  obtain rfl : len = 2 := by simpa [am_okL] using hlk
  obtain ⟨hx, hb, hr, hml, hown, hts, hlocks, hname, hK, hX, hb0, hB0, hL⟩ := id C
  have hnx := hnx.resolve_left (by simp [am_uncond])
  refine lv_lstore hx hb hdec hRe.LR.has hk rfl (fun ls' hl' => ?_)
  exact K (pc + 2) ad ls' H locs hnx hck (hRe.locals (am_LR.st2 (v := .inr (.inl x)) hl') (am_st2_len _ _ _) (am_st2_ok hRe.okls _ (hRe.okst _ List.mem_cons_self)) (fun w hw => hRe.okst _ (List.mem_cons_of_mem _ hw)))
theorem am_s_lstore_n (C : am_Cx p s m args meth c D tA b B0 L xs M) {k : Fin 4} (hk : (k : Nat) + 1 < ls.length) (K : am_Gl p l e R s m args below meth c Q D tA b B0 L xs a0 cE sE M (es) (am_st2 ls k (.inr (.inl x))) (st) (h)) : am_Gl p l e R s m args below meth c Q D tA b B0 L xs a0 cE sE M ((pc, .lstore_n k, len, os, z) :: es) (ls) (.inr (.inl x) :: st) (h) := by
  intro pc0 ad lsC H locs hpc hchk hRe
  have hpc := hpc _ rfl
  dsimp only at hpc
  subst hpc
  obtain ⟨hdec, hlk, -, hnx, hck⟩ := am_chk_cons hchk rfl
  obtain rfl : len = 1 := by simpa [am_okL] using hlk
  obtain ⟨hx, hb, hr, hml, hown, hts, hlocks, hname, hK, hX, hb0, hB0, hL⟩ := id C
  have hnx := hnx.resolve_left (by simp [am_uncond])
  refine lv_lstore_n hx hb hdec rfl hRe.LR.has hk rfl (fun ls' hl' => ?_)
  exact K (pc + 1) ad ls' H locs hnx hck (hRe.locals (am_LR.st2 (v := .inr (.inl x)) hl') (am_st2_len _ _ _) (am_st2_ok hRe.okls _ (hRe.okst _ List.mem_cons_self)) (fun w hw => hRe.okst _ (List.mem_cons_of_mem _ hw)))
theorem am_s_iinc (C : am_Cx p s m args meth c D tA b B0 L xs M) {n : Int} (hl : ls[k]? = some (.inl x)) (K : am_Gl p l e R s m args below meth c Q D tA b B0 L xs a0 cE sE M (es) (am_st1 ls k (.inl (am_w (x + n)))) (st) (h)) : am_Gl p l e R s m args below meth c Q D tA b B0 L xs a0 cE sE M ((pc, .iinc k n, len, os, z) :: es) (ls) (st) (h) := by
  intro pc0 ad lsC H locs hpc hchk hRe
  have hpc := hpc _ rfl
  dsimp only at hpc
  subst hpc
  obtain ⟨hdec, hlk, -, hnx, hck⟩ := am_chk_cons hchk rfl
  obtain rfl : len = 3 := by simpa [am_okL] using hlk
  obtain ⟨hx, hb, hr, hml, hown, hts, hlocks, hname, hK, hX, hb0, hB0, hL⟩ := id C
  have hnx := hnx.resolve_left (by simp [am_uncond])
  obtain ⟨j, hj⟩ := List.getElem?_of_mem (am_mem_prs (ad := ad) hl (by simp [am_nul]))
  refine lv_iinc (v := Int32.ofInt (am_w (x + n))) hx hb hdec hRe.LR.has hj (by rw [am_oI_w, Int32.ofInt_add]) (List.getElem?_eq_some_iff.mp hl).1 rfl (fun ls' hl' => ?_)
  exact K (pc + 3) ad ls' H locs hnx hck (hRe.locals (am_LR.st1 (v := .inl (am_w (x + n))) hl') (am_st1_len _ _ _) (am_st1_ok hRe.okls _ (am_w_in _)) hRe.okst)
theorem am_s_iconst (C : am_Cx p s m args meth c D tA b B0 L xs M) {n : Int} (K : am_Gl p l e R s m args below meth c Q D tA b B0 L xs a0 cE sE M (es) (ls) (.inl z :: st) (h)) : am_Gl p l e R s m args below meth c Q D tA b B0 L xs a0 cE sE M ((pc, .iconst n, len, os, z) :: es) (ls) (st) (h) := by
  intro pc0 ad lsC H locs hpc hchk hRe
  have hpc := hpc _ rfl
  dsimp only at hpc
  subst hpc
  obtain ⟨hdec, hlk, -, hnx, hck⟩ := am_chk_cons hchk rfl
  simp only [am_okL, am_iI, Bool.and_eq_true, beq_iff_eq, decide_eq_true_eq] at hlk
  obtain ⟨⟨rfl, hv⟩, hz1, hz2⟩ := hlk
  obtain ⟨hx, hb, hr, hml, hown, hts, hlocks, hname, hK, hX, hb0, hB0, hL⟩ := id C
  have hnx := hnx.resolve_left (by simp [am_uncond])
  refine lv_iconst hx hb hdec hv ?_
  exact K (pc + 1) ad lsC H locs hnx hck (hRe.push (v := .inl z) ⟨hz1, hz2⟩ (fun _ h => h))
theorem am_s_bipush (C : am_Cx p s m args meth c D tA b B0 L xs M) {n : Int} (K : am_Gl p l e R s m args below meth c Q D tA b B0 L xs a0 cE sE M (es) (ls) (.inl z :: st) (h)) : am_Gl p l e R s m args below meth c Q D tA b B0 L xs a0 cE sE M ((pc, .bipush n, len, os, z) :: es) (ls) (st) (h) := by
  intro pc0 ad lsC H locs hpc hchk hRe
  have hpc := hpc _ rfl
  dsimp only at hpc
  subst hpc
  obtain ⟨hdec, hlk, -, hnx, hck⟩ := am_chk_cons hchk rfl
  simp only [am_okL, am_iI, Bool.and_eq_true, beq_iff_eq, decide_eq_true_eq] at hlk
  obtain ⟨⟨rfl, hv⟩, hz1, hz2⟩ := hlk
  obtain ⟨hx, hb, hr, hml, hown, hts, hlocks, hname, hK, hX, hb0, hB0, hL⟩ := id C
  have hnx := hnx.resolve_left (by simp [am_uncond])
  refine lv_bipush hx hb hdec hv ?_
  exact K (pc + 2) ad lsC H locs hnx hck (hRe.push (v := .inl z) ⟨hz1, hz2⟩ (fun _ h => h))
theorem am_s_sipush (C : am_Cx p s m args meth c D tA b B0 L xs M) {n : Int} (K : am_Gl p l e R s m args below meth c Q D tA b B0 L xs a0 cE sE M (es) (ls) (.inl z :: st) (h)) : am_Gl p l e R s m args below meth c Q D tA b B0 L xs a0 cE sE M ((pc, .sipush n, len, os, z) :: es) (ls) (st) (h) := by
  intro pc0 ad lsC H locs hpc hchk hRe
  have hpc := hpc _ rfl
  dsimp only at hpc
  subst hpc
  obtain ⟨hdec, hlk, -, hnx, hck⟩ := am_chk_cons hchk rfl
  simp only [am_okL, am_iI, Bool.and_eq_true, beq_iff_eq, decide_eq_true_eq] at hlk
  obtain ⟨⟨rfl, hv⟩, hz1, hz2⟩ := hlk
  obtain ⟨hx, hb, hr, hml, hown, hts, hlocks, hname, hK, hX, hb0, hB0, hL⟩ := id C
  have hnx := hnx.resolve_left (by simp [am_uncond])
  refine lv_sipush hx hb hdec hv ?_
  exact K (pc + 3) ad lsC H locs hnx hck (hRe.push (v := .inl z) ⟨hz1, hz2⟩ (fun _ h => h))
theorem am_s_lconst (C : am_Cx p s m args meth c D tA b B0 L xs M) {n : Fin 2} (K : am_Gl p l e R s m args below meth c Q D tA b B0 L xs a0 cE sE M (es) (ls) (.inr (.inl z) :: st) (h)) : am_Gl p l e R s m args below meth c Q D tA b B0 L xs a0 cE sE M ((pc, .lconst n, len, os, z) :: es) (ls) (st) (h) := by
  intro pc0 ad lsC H locs hpc hchk hRe
  have hpc := hpc _ rfl
  dsimp only at hpc
  subst hpc
  obtain ⟨hdec, hlk, -, hnx, hck⟩ := am_chk_cons hchk rfl
  simp only [am_okL, am_iL, Bool.and_eq_true, beq_iff_eq, decide_eq_true_eq] at hlk
  obtain ⟨⟨rfl, hv⟩, hz1, hz2⟩ := hlk
  obtain ⟨hx, hb, hr, hml, hown, hts, hlocks, hname, hK, hX, hb0, hB0, hL⟩ := id C
  have hnx := hnx.resolve_left (by simp [am_uncond])
  refine lv_lconst hx hb hdec hv ?_
  exact K (pc + 1) ad lsC H locs hnx hck (hRe.push (v := .inr (.inl z)) ⟨hz1, hz2⟩ (fun _ h => h))
theorem am_s_ldc (C : am_Cx p s m args meth c D tA b B0 L xs M) {n w : Nat} (K : am_Gl p l e R s m args below meth c Q D tA b B0 L xs a0 cE sE M (es) (ls) (.inl z :: st) (h)) : am_Gl p l e R s m args below meth c Q D tA b B0 L xs a0 cE sE M ((pc, .ldc n, len, [w], z) :: es) (ls) (st) (h) := by
  intro pc0 ad lsC H locs hpc hchk hRe
  have hpc := hpc _ rfl
  dsimp only at hpc
  subst hpc
  obtain ⟨hdec, hlk, -, hnx, hck⟩ := am_chk_cons hchk (by simp [am_stop, am_bad])
  simp only [am_okL, am_iI, Bool.and_eq_true, beq_iff_eq, decide_eq_true_eq] at hlk
  obtain ⟨⟨rfl, hw⟩, hz1, hz2⟩ := hlk
  obtain ⟨hx, hb, hr, hml, hown, hts, hlocks, hname, hK, hX, hb0, hB0, hL⟩ := id C
  have hnx := hnx.resolve_left (by simp [am_uncond])
  refine lv_ldc hx hb hown (hts _ (am_wd_mem hw)) hdec ?_
  exact K (pc + 2) ad lsC H locs hnx hck (hRe.push (v := .inl z) ⟨hz1, hz2⟩ (fun _ h => h))
theorem am_s_ldc_w (C : am_Cx p s m args meth c D tA b B0 L xs M) {n w : Nat} (K : am_Gl p l e R s m args below meth c Q D tA b B0 L xs a0 cE sE M (es) (ls) (.inl z :: st) (h)) : am_Gl p l e R s m args below meth c Q D tA b B0 L xs a0 cE sE M ((pc, .ldc_w n, len, [w], z) :: es) (ls) (st) (h) := by
  intro pc0 ad lsC H locs hpc hchk hRe
  have hpc := hpc _ rfl
  dsimp only at hpc
  subst hpc
  obtain ⟨hdec, hlk, -, hnx, hck⟩ := am_chk_cons hchk rfl
  simp only [am_okL, am_iI, Bool.and_eq_true, beq_iff_eq, decide_eq_true_eq] at hlk
  obtain ⟨⟨rfl, hw⟩, hz1, hz2⟩ := hlk
  obtain ⟨hx, hb, hr, hml, hown, hts, hlocks, hname, hK, hX, hb0, hB0, hL⟩ := id C
  have hnx := hnx.resolve_left (by simp [am_uncond])
  refine lv_ldcw hx hb hown (hts _ (am_wd_mem hw)) hdec ?_
  exact K (pc + 3) ad lsC H locs hnx hck (hRe.push (v := .inl z) ⟨hz1, hz2⟩ (fun _ h => h))
theorem am_s_ldc2_w (C : am_Cx p s m args meth c D tA b B0 L xs M) {n w : Nat} (K : am_Gl p l e R s m args below meth c Q D tA b B0 L xs a0 cE sE M (es) (ls) (.inr (.inl z) :: st) (h)) : am_Gl p l e R s m args below meth c Q D tA b B0 L xs a0 cE sE M ((pc, .ldc2_w n, len, [w], z) :: es) (ls) (st) (h) := by
  intro pc0 ad lsC H locs hpc hchk hRe
  have hpc := hpc _ rfl
  dsimp only at hpc
  subst hpc
  obtain ⟨hdec, hlk, -, hnx, hck⟩ := am_chk_cons hchk rfl
  simp only [am_okL, am_iL, Bool.and_eq_true, beq_iff_eq, decide_eq_true_eq] at hlk
  obtain ⟨⟨rfl, hw⟩, hz1, hz2⟩ := hlk
  obtain ⟨hx, hb, hr, hml, hown, hts, hlocks, hname, hK, hX, hb0, hB0, hL⟩ := id C
  have hnx := hnx.resolve_left (by simp [am_uncond])
  refine lv_ldc2 hx hb hown (hts _ (am_wd_mem hw)) hdec ?_
  exact K (pc + 3) ad lsC H locs hnx hck (hRe.push (v := .inr (.inl z)) ⟨hz1, hz2⟩ (fun _ h => h))
theorem am_s_iadd (C : am_Cx p s m args meth c D tA b B0 L xs M) (K : am_Gl p l e R s m args below meth c Q D tA b B0 L xs a0 cE sE M (es) (ls) (.inl (am_w (x + y)) :: st) (h)) : am_Gl p l e R s m args below meth c Q D tA b B0 L xs a0 cE sE M ((pc, .iadd, len, os, z) :: es) (ls) (.inl y :: .inl x :: st) (h) := by
  intro pc0 ad lsC H locs hpc hchk hRe
  have hpc := hpc _ rfl
  dsimp only at hpc
  subst hpc
  obtain ⟨hdec, hlk, -, hnx, hck⟩ := am_chk_cons hchk rfl
  obtain rfl : len = 1 := by simpa [am_okL] using hlk
  obtain ⟨hx, hb, hr, hml, hown, hts, hlocks, hname, hK, hX, hb0, hB0, hL⟩ := id C
  have hnx := hnx.resolve_left (by simp [am_uncond])
  refine lv_iadd hx hb hdec ?_
  rw [← show Int32.ofInt (am_w (x + y)) = Int32.ofInt x + Int32.ofInt y by rw [am_oI_w, Int32.ofInt_add]]
  exact K (pc + 1) ad lsC H locs hnx hck (hRe.push (v := .inl (am_w (x + y))) (am_w_in _) (fun w hw => List.mem_cons_of_mem _ (List.mem_cons_of_mem _ hw)))
theorem am_s_isub (C : am_Cx p s m args meth c D tA b B0 L xs M) (K : am_Gl p l e R s m args below meth c Q D tA b B0 L xs a0 cE sE M (es) (ls) (.inl (am_w (x - y)) :: st) (h)) : am_Gl p l e R s m args below meth c Q D tA b B0 L xs a0 cE sE M ((pc, .isub, len, os, z) :: es) (ls) (.inl y :: .inl x :: st) (h) := by
  intro pc0 ad lsC H locs hpc hchk hRe
  have hpc := hpc _ rfl
  dsimp only at hpc
  subst hpc
  obtain ⟨hdec, hlk, -, hnx, hck⟩ := am_chk_cons hchk rfl
  obtain rfl : len = 1 := by simpa [am_okL] using hlk
  obtain ⟨hx, hb, hr, hml, hown, hts, hlocks, hname, hK, hX, hb0, hB0, hL⟩ := id C
  have hnx := hnx.resolve_left (by simp [am_uncond])
  refine lv_isub hx hb hdec ?_
  rw [← show Int32.ofInt (am_w (x - y)) = Int32.ofInt x - Int32.ofInt y by rw [am_oI_w, Int32.ofInt_sub]]
  exact K (pc + 1) ad lsC H locs hnx hck (hRe.push (v := .inl (am_w (x - y))) (am_w_in _) (fun w hw => List.mem_cons_of_mem _ (List.mem_cons_of_mem _ hw)))
theorem am_s_imul (C : am_Cx p s m args meth c D tA b B0 L xs M) (K : am_Gl p l e R s m args below meth c Q D tA b B0 L xs a0 cE sE M (es) (ls) (.inl (am_w (x * y)) :: st) (h)) : am_Gl p l e R s m args below meth c Q D tA b B0 L xs a0 cE sE M ((pc, .imul, len, os, z) :: es) (ls) (.inl y :: .inl x :: st) (h) := by
  intro pc0 ad lsC H locs hpc hchk hRe
  have hpc := hpc _ rfl
  dsimp only at hpc
  subst hpc
  obtain ⟨hdec, hlk, -, hnx, hck⟩ := am_chk_cons hchk rfl
  obtain rfl : len = 1 := by simpa [am_okL] using hlk
  obtain ⟨hx, hb, hr, hml, hown, hts, hlocks, hname, hK, hX, hb0, hB0, hL⟩ := id C
  have hnx := hnx.resolve_left (by simp [am_uncond])
  refine lv_imul hx hb hdec ?_
  rw [← show Int32.ofInt (am_w (x * y)) = Int32.ofInt x * Int32.ofInt y by rw [am_oI_w, Int32.ofInt_mul]]
  exact K (pc + 1) ad lsC H locs hnx hck (hRe.push (v := .inl (am_w (x * y))) (am_w_in _) (fun w hw => List.mem_cons_of_mem _ (List.mem_cons_of_mem _ hw)))
theorem am_s_iand (C : am_Cx p s m args meth c D tA b B0 L xs M) (K : am_Gl p l e R s m args below meth c Q D tA b B0 L xs a0 cE sE M (es) (ls) (.inl (am_and x y) :: st) (h)) : am_Gl p l e R s m args below meth c Q D tA b B0 L xs a0 cE sE M ((pc, .iand, len, os, z) :: es) (ls) (.inl y :: .inl x :: st) (h) := by
  intro pc0 ad lsC H locs hpc hchk hRe
  have hpc := hpc _ rfl
  dsimp only at hpc
  subst hpc
  obtain ⟨hdec, hlk, -, hnx, hck⟩ := am_chk_cons hchk rfl
  obtain rfl : len = 1 := by simpa [am_okL] using hlk
  obtain ⟨hx, hb, hr, hml, hown, hts, hlocks, hname, hK, hX, hb0, hB0, hL⟩ := id C
  have hnx := hnx.resolve_left (by simp [am_uncond])
  refine lv_iand hx hb hdec ?_
  rw [← show Int32.ofInt (am_and x y) = Int32.ofInt x &&& Int32.ofInt y by unfold am_and; rw [Int32.ofInt_toInt]]
  exact K (pc + 1) ad lsC H locs hnx hck (hRe.push (v := .inl (am_and x y)) (am_inI_of _) (fun w hw => List.mem_cons_of_mem _ (List.mem_cons_of_mem _ hw)))
theorem am_s_ior (C : am_Cx p s m args meth c D tA b B0 L xs M) (K : am_Gl p l e R s m args below meth c Q D tA b B0 L xs a0 cE sE M (es) (ls) (.inl (am_or x y) :: st) (h)) : am_Gl p l e R s m args below meth c Q D tA b B0 L xs a0 cE sE M ((pc, .ior, len, os, z) :: es) (ls) (.inl y :: .inl x :: st) (h) := by
  intro pc0 ad lsC H locs hpc hchk hRe
  have hpc := hpc _ rfl
  dsimp only at hpc
  subst hpc
  obtain ⟨hdec, hlk, -, hnx, hck⟩ := am_chk_cons hchk rfl
  obtain rfl : len = 1 := by simpa [am_okL] using hlk
  obtain ⟨hx, hb, hr, hml, hown, hts, hlocks, hname, hK, hX, hb0, hB0, hL⟩ := id C
  have hnx := hnx.resolve_left (by simp [am_uncond])
  refine lv_ior hx hb hdec ?_
  rw [← show Int32.ofInt (am_or x y) = Int32.ofInt x ||| Int32.ofInt y by unfold am_or; rw [Int32.ofInt_toInt]]
  exact K (pc + 1) ad lsC H locs hnx hck (hRe.push (v := .inl (am_or x y)) (am_inI_of _) (fun w hw => List.mem_cons_of_mem _ (List.mem_cons_of_mem _ hw)))
theorem am_s_ishl (C : am_Cx p s m args meth c D tA b B0 L xs M) (K : am_Gl p l e R s m args below meth c Q D tA b B0 L xs a0 cE sE M (es) (ls) (.inl (am_shl x y) :: st) (h)) : am_Gl p l e R s m args below meth c Q D tA b B0 L xs a0 cE sE M ((pc, .ishl, len, os, z) :: es) (ls) (.inl y :: .inl x :: st) (h) := by
  intro pc0 ad lsC H locs hpc hchk hRe
  have hpc := hpc _ rfl
  dsimp only at hpc
  subst hpc
  obtain ⟨hdec, hlk, -, hnx, hck⟩ := am_chk_cons hchk rfl
  obtain rfl : len = 1 := by simpa [am_okL] using hlk
  obtain ⟨hx, hb, hr, hml, hown, hts, hlocks, hname, hK, hX, hb0, hB0, hL⟩ := id C
  have hnx := hnx.resolve_left (by simp [am_uncond])
  refine lv_ishl hx hb hdec ?_
  rw [← show Int32.ofInt (am_shl x y) = Int32.ofInt x <<< (Int32.ofInt y &&& 31) by unfold am_shl; rw [Int32.ofInt_toInt]]
  exact K (pc + 1) ad lsC H locs hnx hck (hRe.push (v := .inl (am_shl x y)) (am_inI_of _) (fun w hw => List.mem_cons_of_mem _ (List.mem_cons_of_mem _ hw)))
theorem am_s_ishr (C : am_Cx p s m args meth c D tA b B0 L xs M) (K : am_Gl p l e R s m args below meth c Q D tA b B0 L xs a0 cE sE M (es) (ls) (.inl (am_shr x y) :: st) (h)) : am_Gl p l e R s m args below meth c Q D tA b B0 L xs a0 cE sE M ((pc, .ishr, len, os, z) :: es) (ls) (.inl y :: .inl x :: st) (h) := by
  intro pc0 ad lsC H locs hpc hchk hRe
  have hpc := hpc _ rfl
  dsimp only at hpc
  subst hpc
  obtain ⟨hdec, hlk, -, hnx, hck⟩ := am_chk_cons hchk rfl
  obtain rfl : len = 1 := by simpa [am_okL] using hlk
  obtain ⟨hx, hb, hr, hml, hown, hts, hlocks, hname, hK, hX, hb0, hB0, hL⟩ := id C
  have hnx := hnx.resolve_left (by simp [am_uncond])
  refine lv_ishr hx hb hdec ?_
  rw [← show Int32.ofInt (am_shr x y) = Int32.ofInt x >>> (Int32.ofInt y &&& 31) by unfold am_shr; rw [Int32.ofInt_toInt]]
  exact K (pc + 1) ad lsC H locs hnx hck (hRe.push (v := .inl (am_shr x y)) (am_inI_of _) (fun w hw => List.mem_cons_of_mem _ (List.mem_cons_of_mem _ hw)))
theorem am_s_iushr (C : am_Cx p s m args meth c D tA b B0 L xs M) (K : am_Gl p l e R s m args below meth c Q D tA b B0 L xs a0 cE sE M (es) (ls) (.inl (am_ushr x y) :: st) (h)) : am_Gl p l e R s m args below meth c Q D tA b B0 L xs a0 cE sE M ((pc, .iushr, len, os, z) :: es) (ls) (.inl y :: .inl x :: st) (h) := by
  intro pc0 ad lsC H locs hpc hchk hRe
  have hpc := hpc _ rfl
  dsimp only at hpc
  subst hpc
  obtain ⟨hdec, hlk, -, hnx, hck⟩ := am_chk_cons hchk rfl
  obtain rfl : len = 1 := by simpa [am_okL] using hlk
  obtain ⟨hx, hb, hr, hml, hown, hts, hlocks, hname, hK, hX, hb0, hB0, hL⟩ := id C
  have hnx := hnx.resolve_left (by simp [am_uncond])
  refine lv_iushr hx hb hdec (v := Int32.ofInt (am_ushr x y)) (by unfold am_ushr; rw [Int32.ofInt_toInt]) ?_
  exact K (pc + 1) ad lsC H locs hnx hck (hRe.push (v := .inl (am_ushr x y)) (am_inI_of _) (fun w hw => List.mem_cons_of_mem _ (List.mem_cons_of_mem _ hw)))
theorem am_s_idiv (C : am_Cx p s m args meth c D tA b B0 L xs M) (hy0 : ¬ y = 0) (K : am_Gl p l e R s m args below meth c Q D tA b B0 L xs a0 cE sE M (es) (ls) (.inl (am_div x y) :: st) (h)) : am_Gl p l e R s m args below meth c Q D tA b B0 L xs a0 cE sE M ((pc, .idiv, len, os, z) :: es) (ls) (.inl y :: .inl x :: st) (h) := by
  intro pc0 ad lsC H locs hpc hchk hRe
  have hpc := hpc _ rfl
  dsimp only at hpc
  subst hpc
  obtain ⟨hdec, hlk, -, hnx, hck⟩ := am_chk_cons hchk rfl
  obtain rfl : len = 1 := by simpa [am_okL] using hlk
  obtain ⟨hx, hb, hr, hml, hown, hts, hlocks, hname, hK, hX, hb0, hB0, hL⟩ := id C
  have hnx := hnx.resolve_left (by simp [am_uncond])
  have hy : ¬ Int32.ofInt y = 0 := fun q => hy0 ((am_eqI (hRe.okst (.inl y) List.mem_cons_self) am_0I).mp (by rw [am_ofI0]; exact q))
  refine lv_idiv hx hb hdec hy ?_
  rw [← show Int32.ofInt (am_div x y) = Int32.ofInt x / Int32.ofInt y by unfold am_div; rw [Int32.ofInt_toInt]]
  exact K (pc + 1) ad lsC H locs hnx hck (hRe.push (v := .inl (am_div x y)) (am_inI_of _) (fun w hw => List.mem_cons_of_mem _ (List.mem_cons_of_mem _ hw)))
theorem am_s_irem (C : am_Cx p s m args meth c D tA b B0 L xs M) (hy0 : ¬ y = 0) (K : am_Gl p l e R s m args below meth c Q D tA b B0 L xs a0 cE sE M (es) (ls) (.inl (am_rem x y) :: st) (h)) : am_Gl p l e R s m args below meth c Q D tA b B0 L xs a0 cE sE M ((pc, .irem, len, os, z) :: es) (ls) (.inl y :: .inl x :: st) (h) := by
  intro pc0 ad lsC H locs hpc hchk hRe
  have hpc := hpc _ rfl
  dsimp only at hpc
  subst hpc
  obtain ⟨hdec, hlk, -, hnx, hck⟩ := am_chk_cons hchk rfl
  obtain rfl : len = 1 := by simpa [am_okL] using hlk
  obtain ⟨hx, hb, hr, hml, hown, hts, hlocks, hname, hK, hX, hb0, hB0, hL⟩ := id C
  have hnx := hnx.resolve_left (by simp [am_uncond])
  have hy : ¬ Int32.ofInt y = 0 := fun q => hy0 ((am_eqI (hRe.okst (.inl y) List.mem_cons_self) am_0I).mp (by rw [am_ofI0]; exact q))
  refine lv_irem hx hb hdec hy ?_
  rw [← show Int32.ofInt (am_rem x y) = Int32.ofInt x - Int32.ofInt x / Int32.ofInt y * Int32.ofInt y by unfold am_rem; rw [Int32.ofInt_toInt]]
  exact K (pc + 1) ad lsC H locs hnx hck (hRe.push (v := .inl (am_rem x y)) (am_inI_of _) (fun w hw => List.mem_cons_of_mem _ (List.mem_cons_of_mem _ hw)))
theorem am_s_ineg (C : am_Cx p s m args meth c D tA b B0 L xs M) (K : am_Gl p l e R s m args below meth c Q D tA b B0 L xs a0 cE sE M (es) (ls) (.inl (am_w (-x)) :: st) (h)) : am_Gl p l e R s m args below meth c Q D tA b B0 L xs a0 cE sE M ((pc, .ineg, len, os, z) :: es) (ls) (.inl x :: st) (h) := by
  intro pc0 ad lsC H locs hpc hchk hRe
  have hpc := hpc _ rfl
  dsimp only at hpc
  subst hpc
  obtain ⟨hdec, hlk, -, hnx, hck⟩ := am_chk_cons hchk rfl
  obtain rfl : len = 1 := by simpa [am_okL] using hlk
  obtain ⟨hx, hb, hr, hml, hown, hts, hlocks, hname, hK, hX, hb0, hB0, hL⟩ := id C
  have hnx := hnx.resolve_left (by simp [am_uncond])
  have ox := hRe.okst _ List.mem_cons_self
  refine lv_ineg hx hb hdec ?_
  rw [← show Int32.ofInt (am_w (-x)) = -Int32.ofInt x by rw [am_oI_w, Int32.ofInt_neg]]
  exact K (pc + 1) ad lsC H locs hnx hck (hRe.push (v := .inl (am_w (-x))) (am_w_in _) (fun w hw => List.mem_cons_of_mem _ hw))
theorem am_s_i2l (C : am_Cx p s m args meth c D tA b B0 L xs M) (K : am_Gl p l e R s m args below meth c Q D tA b B0 L xs a0 cE sE M (es) (ls) (.inr (.inl x) :: st) (h)) : am_Gl p l e R s m args below meth c Q D tA b B0 L xs a0 cE sE M ((pc, .i2l, len, os, z) :: es) (ls) (.inl x :: st) (h) := by
  intro pc0 ad lsC H locs hpc hchk hRe
  have hpc := hpc _ rfl
  dsimp only at hpc
  subst hpc
  obtain ⟨hdec, hlk, -, hnx, hck⟩ := am_chk_cons hchk rfl
  obtain rfl : len = 1 := by simpa [am_okL] using hlk
  obtain ⟨hx, hb, hr, hml, hown, hts, hlocks, hname, hK, hX, hb0, hB0, hL⟩ := id C
  have hnx := hnx.resolve_left (by simp [am_uncond])
  have ox := hRe.okst _ List.mem_cons_self
  refine lv_i2l hx hb hdec (v := Int64.ofInt x) (am_i2l_eq ox) ?_
  exact K (pc + 1) ad lsC H locs hnx hck (hRe.push (v := .inr (.inl x)) (am_I_L ox) (fun w hw => List.mem_cons_of_mem _ hw))
theorem am_s_i2b (C : am_Cx p s m args meth c D tA b B0 L xs M) (K : am_Gl p l e R s m args below meth c Q D tA b B0 L xs a0 cE sE M (es) (ls) (.inl (am_i2b x) :: st) (h)) : am_Gl p l e R s m args below meth c Q D tA b B0 L xs a0 cE sE M ((pc, .i2b, len, os, z) :: es) (ls) (.inl x :: st) (h) := by
  intro pc0 ad lsC H locs hpc hchk hRe
  have hpc := hpc _ rfl
  dsimp only at hpc
  subst hpc
  obtain ⟨hdec, hlk, -, hnx, hck⟩ := am_chk_cons hchk rfl
  obtain rfl : len = 1 := by simpa [am_okL] using hlk
  obtain ⟨hx, hb, hr, hml, hown, hts, hlocks, hname, hK, hX, hb0, hB0, hL⟩ := id C
  have hnx := hnx.resolve_left (by simp [am_uncond])
  have ox := hRe.okst _ List.mem_cons_self
  refine lv_i2b hx hb hdec (v := Int32.ofInt (am_i2b x)) (by unfold am_i2b; rw [Int32.ofInt_toInt]) ?_
  exact K (pc + 1) ad lsC H locs hnx hck (hRe.push (v := .inl (am_i2b x)) (am_inI_of _) (fun w hw => List.mem_cons_of_mem _ hw))
theorem am_s_l2i (C : am_Cx p s m args meth c D tA b B0 L xs M) (K : am_Gl p l e R s m args below meth c Q D tA b B0 L xs a0 cE sE M (es) (ls) (.inl (am_l2i x) :: st) (h)) : am_Gl p l e R s m args below meth c Q D tA b B0 L xs a0 cE sE M ((pc, .l2i, len, os, z) :: es) (ls) (.inr (.inl x) :: st) (h) := by
  intro pc0 ad lsC H locs hpc hchk hRe
  have hpc := hpc _ rfl
  dsimp only at hpc
  subst hpc
  obtain ⟨hdec, hlk, -, hnx, hck⟩ := am_chk_cons hchk rfl
  obtain rfl : len = 1 := by simpa [am_okL] using hlk
  obtain ⟨hx, hb, hr, hml, hown, hts, hlocks, hname, hK, hX, hb0, hB0, hL⟩ := id C
  have hnx := hnx.resolve_left (by simp [am_uncond])
  have ox := hRe.okst _ List.mem_cons_self
  refine lv_l2i hx hb hdec (v := Int32.ofInt (am_l2i x)) (by unfold am_l2i; rw [Int32.ofInt_toInt]) ?_
  exact K (pc + 1) ad lsC H locs hnx hck (hRe.push (v := .inl (am_l2i x)) (am_inI_of _) (fun w hw => List.mem_cons_of_mem _ hw))
theorem am_s_ladd (C : am_Cx p s m args meth c D tA b B0 L xs M) (K : am_Gl p l e R s m args below meth c Q D tA b B0 L xs a0 cE sE M (es) (ls) (.inr (.inl (am_wl (x + y))) :: st) (h)) : am_Gl p l e R s m args below meth c Q D tA b B0 L xs a0 cE sE M ((pc, .ladd, len, os, z) :: es) (ls) (.inr (.inl y) :: .inr (.inl x) :: st) (h) := by
  intro pc0 ad lsC H locs hpc hchk hRe
  have hpc := hpc _ rfl
  dsimp only at hpc
  subst hpc
  obtain ⟨hdec, hlk, -, hnx, hck⟩ := am_chk_cons hchk rfl
  obtain rfl : len = 1 := by simpa [am_okL] using hlk
  obtain ⟨hx, hb, hr, hml, hown, hts, hlocks, hname, hK, hX, hb0, hB0, hL⟩ := id C
  have hnx := hnx.resolve_left (by simp [am_uncond])
  refine lv_ladd hx hb hdec ?_
  rw [← show Int64.ofInt (am_wl (x + y)) = Int64.ofInt x + Int64.ofInt y by rw [am_oL_w, Int64.ofInt_add]]
  exact K (pc + 1) ad lsC H locs hnx hck (hRe.push (v := .inr (.inl (am_wl (x + y)))) (am_wl_in _) (fun w hw => List.mem_cons_of_mem _ (List.mem_cons_of_mem _ hw)))
theorem am_s_lsub (C : am_Cx p s m args meth c D tA b B0 L xs M) (K : am_Gl p l e R s m args below meth c Q D tA b B0 L xs a0 cE sE M (es) (ls) (.inr (.inl (am_wl (x - y))) :: st) (h)) : am_Gl p l e R s m args below meth c Q D tA b B0 L xs a0 cE sE M ((pc, .lsub, len, os, z) :: es) (ls) (.inr (.inl y) :: .inr (.inl x) :: st) (h) := by
  intro pc0 ad lsC H locs hpc hchk hRe
  have hpc := hpc _ rfl
  dsimp only at hpc
  subst hpc
  obtain ⟨hdec, hlk, -, hnx, hck⟩ := am_chk_cons hchk rfl
  obtain rfl : len = 1 := by simpa [am_okL] using hlk
  obtain ⟨hx, hb, hr, hml, hown, hts, hlocks, hname, hK, hX, hb0, hB0, hL⟩ := id C
  have hnx := hnx.resolve_left (by simp [am_uncond])
  refine lv_lsub hx hb hdec ?_
  rw [← show Int64.ofInt (am_wl (x - y)) = Int64.ofInt x - Int64.ofInt y by rw [am_oL_w, Int64.ofInt_sub]]
  exact K (pc + 1) ad lsC H locs hnx hck (hRe.push (v := .inr (.inl (am_wl (x - y)))) (am_wl_in _) (fun w hw => List.mem_cons_of_mem _ (List.mem_cons_of_mem _ hw)))
theorem am_s_lmul (C : am_Cx p s m args meth c D tA b B0 L xs M) (K : am_Gl p l e R s m args below meth c Q D tA b B0 L xs a0 cE sE M (es) (ls) (.inr (.inl (am_wl (x * y))) :: st) (h)) : am_Gl p l e R s m args below meth c Q D tA b B0 L xs a0 cE sE M ((pc, .lmul, len, os, z) :: es) (ls) (.inr (.inl y) :: .inr (.inl x) :: st) (h) := by
  intro pc0 ad lsC H locs hpc hchk hRe
  have hpc := hpc _ rfl
  dsimp only at hpc
  subst hpc
  obtain ⟨hdec, hlk, -, hnx, hck⟩ := am_chk_cons hchk rfl
  obtain rfl : len = 1 := by simpa [am_okL] using hlk
  obtain ⟨hx, hb, hr, hml, hown, hts, hlocks, hname, hK, hX, hb0, hB0, hL⟩ := id C
  have hnx := hnx.resolve_left (by simp [am_uncond])
  refine lv_lmul hx hb hdec ?_
  rw [← show Int64.ofInt (am_wl (x * y)) = Int64.ofInt x * Int64.ofInt y by rw [am_oL_w, Int64.ofInt_mul]]
  exact K (pc + 1) ad lsC H locs hnx hck (hRe.push (v := .inr (.inl (am_wl (x * y)))) (am_wl_in _) (fun w hw => List.mem_cons_of_mem _ (List.mem_cons_of_mem _ hw)))
theorem am_s_lor (C : am_Cx p s m args meth c D tA b B0 L xs M) (K : am_Gl p l e R s m args below meth c Q D tA b B0 L xs a0 cE sE M (es) (ls) (.inr (.inl (am_lor x y)) :: st) (h)) : am_Gl p l e R s m args below meth c Q D tA b B0 L xs a0 cE sE M ((pc, .lor, len, os, z) :: es) (ls) (.inr (.inl y) :: .inr (.inl x) :: st) (h) := by
  intro pc0 ad lsC H locs hpc hchk hRe
  have hpc := hpc _ rfl
  dsimp only at hpc
  subst hpc
  obtain ⟨hdec, hlk, -, hnx, hck⟩ := am_chk_cons hchk rfl
  obtain rfl : len = 1 := by simpa [am_okL] using hlk
  obtain ⟨hx, hb, hr, hml, hown, hts, hlocks, hname, hK, hX, hb0, hB0, hL⟩ := id C
  have hnx := hnx.resolve_left (by simp [am_uncond])
  refine lv_lor hx hb hdec ?_
  rw [← show Int64.ofInt (am_lor x y) = Int64.ofInt x ||| Int64.ofInt y by unfold am_lor; rw [Int64.ofInt_toInt]]
  exact K (pc + 1) ad lsC H locs hnx hck (hRe.push (v := .inr (.inl (am_lor x y))) (am_inL_of _) (fun w hw => List.mem_cons_of_mem _ (List.mem_cons_of_mem _ hw)))
theorem am_s_lcmp (C : am_Cx p s m args meth c D tA b B0 L xs M) (K : am_Gl p l e R s m args below meth c Q D tA b B0 L xs a0 cE sE M (es) (ls) (.inl (am_lcmp x y) :: st) (h)) : am_Gl p l e R s m args below meth c Q D tA b B0 L xs a0 cE sE M ((pc, .lcmp, len, os, z) :: es) (ls) (.inr (.inl y) :: .inr (.inl x) :: st) (h) := by
  intro pc0 ad lsC H locs hpc hchk hRe
  have hpc := hpc _ rfl
  dsimp only at hpc
  subst hpc
  obtain ⟨hdec, hlk, -, hnx, hck⟩ := am_chk_cons hchk rfl
  obtain rfl : len = 1 := by simpa [am_okL] using hlk
  obtain ⟨hx, hb, hr, hml, hown, hts, hlocks, hname, hK, hX, hb0, hB0, hL⟩ := id C
  have hnx := hnx.resolve_left (by simp [am_uncond])
  refine W.lcmp hx hb hdec ?_
  rw [am_cmp_eq (hRe.okst _ (List.mem_cons_of_mem _ List.mem_cons_self)) (hRe.okst _ List.mem_cons_self)]
  exact K (pc + 1) ad lsC H locs hnx hck (hRe.push (v := .inl (am_lcmp x y)) (am_in_cmp) (fun w hw => List.mem_cons_of_mem _ (List.mem_cons_of_mem _ hw)))
theorem am_s_lshl (C : am_Cx p s m args meth c D tA b B0 L xs M) (K : am_Gl p l e R s m args below meth c Q D tA b B0 L xs a0 cE sE M (es) (ls) (.inr (.inl (am_lshl x y)) :: st) (h)) : am_Gl p l e R s m args below meth c Q D tA b B0 L xs a0 cE sE M ((pc, .lshl, len, os, z) :: es) (ls) (.inl y :: .inr (.inl x) :: st) (h) := by
  intro pc0 ad lsC H locs hpc hchk hRe
  have hpc := hpc _ rfl
  dsimp only at hpc
  subst hpc
  obtain ⟨hdec, hlk, -, hnx, hck⟩ := am_chk_cons hchk rfl
  obtain rfl : len = 1 := by simpa [am_okL] using hlk
  obtain ⟨hx, hb, hr, hml, hown, hts, hlocks, hname, hK, hX, hb0, hB0, hL⟩ := id C
  have hnx := hnx.resolve_left (by simp [am_uncond])
  refine lv_lshl hx hb hdec (v := Int64.ofInt (am_lshl x y)) (by unfold am_lshl; rw [Int64.ofInt_toInt]) ?_
  exact K (pc + 1) ad lsC H locs hnx hck (hRe.push (v := .inr (.inl (am_lshl x y))) (am_inL_of _) (fun w hw => List.mem_cons_of_mem _ (List.mem_cons_of_mem _ hw)))
theorem am_s_lshr (C : am_Cx p s m args meth c D tA b B0 L xs M) (K : am_Gl p l e R s m args below meth c Q D tA b B0 L xs a0 cE sE M (es) (ls) (.inr (.inl (am_lshr x y)) :: st) (h)) : am_Gl p l e R s m args below meth c Q D tA b B0 L xs a0 cE sE M ((pc, .lshr, len, os, z) :: es) (ls) (.inl y :: .inr (.inl x) :: st) (h) := by
  intro pc0 ad lsC H locs hpc hchk hRe
  have hpc := hpc _ rfl
  dsimp only at hpc
  subst hpc
  obtain ⟨hdec, hlk, -, hnx, hck⟩ := am_chk_cons hchk rfl
  obtain rfl : len = 1 := by simpa [am_okL] using hlk
  obtain ⟨hx, hb, hr, hml, hown, hts, hlocks, hname, hK, hX, hb0, hB0, hL⟩ := id C
  have hnx := hnx.resolve_left (by simp [am_uncond])
  refine lv_lshr hx hb hdec (v := Int64.ofInt (am_lshr x y)) (by unfold am_lshr; rw [Int64.ofInt_toInt]) ?_
  exact K (pc + 1) ad lsC H locs hnx hck (hRe.push (v := .inr (.inl (am_lshr x y))) (am_inL_of _) (fun w hw => List.mem_cons_of_mem _ (List.mem_cons_of_mem _ hw)))
theorem am_s_dup (C : am_Cx p s m args meth c D tA b B0 L xs M) {v : am_V} (hv : am_cat v = 1) (K : am_Gl p l e R s m args below meth c Q D tA b B0 L xs a0 cE sE M (es) (ls) (v :: v :: st) (h)) : am_Gl p l e R s m args below meth c Q D tA b B0 L xs a0 cE sE M ((pc, .dup, len, os, z) :: es) (ls) (v :: st) (h) := by
  intro pc0 ad lsC H locs hpc hchk hRe
  have hpc := hpc _ rfl
  dsimp only at hpc
  subst hpc
  obtain ⟨hdec, hlk, -, hnx, hck⟩ := am_chk_cons hchk rfl
  obtain rfl : len = 1 := by simpa [am_okL] using hlk
  obtain ⟨hx, hb, hr, hml, hown, hts, hlocks, hname, hK, hX, hb0, hB0, hL⟩ := id C
  have hnx := hnx.resolve_left (by simp [am_uncond])
  refine lv_dup hx hb hdec (by rw [am_cat_cv]; exact hv) ?_
  exact K (pc + 1) ad lsC H locs hnx hck (hRe.push (hRe.okst _ List.mem_cons_self) (fun _ h => h))
theorem am_s_pop (C : am_Cx p s m args meth c D tA b B0 L xs M) {v : am_V} (hv : am_cat v = 1) (K : am_Gl p l e R s m args below meth c Q D tA b B0 L xs a0 cE sE M (es) (ls) (st) (h)) : am_Gl p l e R s m args below meth c Q D tA b B0 L xs a0 cE sE M ((pc, .pop, len, os, z) :: es) (ls) (v :: st) (h) := by
  intro pc0 ad lsC H locs hpc hchk hRe
  have hpc := hpc _ rfl
  dsimp only at hpc
  subst hpc
  obtain ⟨hdec, hlk, -, hnx, hck⟩ := am_chk_cons hchk rfl
  obtain rfl : len = 1 := by simpa [am_okL] using hlk
  obtain ⟨hx, hb, hr, hml, hown, hts, hlocks, hname, hK, hX, hb0, hB0, hL⟩ := id C
  have hnx := hnx.resolve_left (by simp [am_uncond])
  refine lv_pop hx hb hdec (by rw [am_cat_cv]; exact hv) ?_
  exact K (pc + 1) ad lsC H locs hnx hck (hRe.pop (fun w hw => List.mem_cons_of_mem _ hw))
theorem am_s_dup2 (C : am_Cx p s m args meth c D tA b B0 L xs M) {v w : am_V} (hv : am_cat v = 1) (hw : am_cat w = 1) (K : am_Gl p l e R s m args below meth c Q D tA b B0 L xs a0 cE sE M (es) (ls) (v :: w :: v :: w :: st) (h)) : am_Gl p l e R s m args below meth c Q D tA b B0 L xs a0 cE sE M ((pc, .dup2, len, os, z) :: es) (ls) (v :: w :: st) (h) := by
  intro pc0 ad lsC H locs hpc hchk hRe
  have hpc := hpc _ rfl
  dsimp only at hpc
  subst hpc
  obtain ⟨hdec, hlk, -, hnx, hck⟩ := am_chk_cons hchk rfl
  obtain rfl : len = 1 := by simpa [am_okL] using hlk
  obtain ⟨hx, hb, hr, hml, hown, hts, hlocks, hname, hK, hX, hb0, hB0, hL⟩ := id C
  have hnx := hnx.resolve_left (by simp [am_uncond])
  refine lv_dup2_11 hx hb hdec (by rw [am_cat_cv]; exact hv) (by rw [am_cat_cv]; exact hw) ?_
  exact K (pc + 1) ad lsC H locs hnx hck ((hRe.push (hRe.okst _ (List.mem_cons_of_mem _ List.mem_cons_self)) (fun _ h => h)).push (hRe.okst _ List.mem_cons_self) (fun _ h => h))
theorem am_s_icmp_eq (C : am_Cx p s m args meth c D tA b B0 L xs M) {off : Int} (K : if x = y then am_Gl p l e R s m args below meth c Q D tA b B0 L xs a0 cE sE M (am_at (PG.1 M).1 ((pc : Int) + off).toNat) (ls) (st) (h) else am_Gl p l e R s m args below meth c Q D tA b B0 L xs a0 cE sE M (es) (ls) (st) (h)) : am_Gl p l e R s m args below meth c Q D tA b B0 L xs a0 cE sE M ((pc, .if_icmp .eq off, len, os, z) :: es) (ls) (.inl y :: .inl x :: st) (h) := by
  intro pc0 ad lsC H locs hpc hchk hRe
  have hpc := hpc _ rfl
  dsimp only at hpc
  subst hpc
  obtain ⟨hdec, hlk, -, hnx, hck⟩ := am_chk_cons hchk rfl
  simp only [am_okL, Bool.and_eq_true, beq_iff_eq, decide_eq_true_eq] at hlk
  obtain ⟨rfl, hoff⟩ := hlk
  obtain ⟨hx, hb, hr, hml, hown, hts, hlocks, hname, hK, hX, hb0, hB0, hL⟩ := id C
  have hnx := hnx.resolve_left (by simp [am_uncond])
  have oy := hRe.okst _ List.mem_cons_self
  have ox := hRe.okst _ (List.mem_cons_of_mem _ List.mem_cons_self)
  have hq : Int32.ofInt x = Int32.ofInt y ↔ x = y := am_eqI ox oy
  refine lv_icmp_eq (tgt := ((pc : Int) + off).toNat) hx hb hdec (by omega) (fun hc => ?_) (fun hc => ?_)
  · rw [if_pos (hq.mp hc)] at K
    exact K _ ad lsC H locs (fun _ => am_at_head) (am_chk_at (am_ck_all M)) (hRe.pop (fun w hw => List.mem_cons_of_mem _ (List.mem_cons_of_mem _ hw)))
  · rw [if_neg (fun q => hc (hq.mpr q))] at K
    exact K (pc + 3) ad lsC H locs hnx hck (hRe.pop (fun w hw => List.mem_cons_of_mem _ (List.mem_cons_of_mem _ hw)))
theorem am_s_if_eq (C : am_Cx p s m args meth c D tA b B0 L xs M) {off : Int} (K : if x = 0 then am_Gl p l e R s m args below meth c Q D tA b B0 L xs a0 cE sE M (am_at (PG.1 M).1 ((pc : Int) + off).toNat) (ls) (st) (h) else am_Gl p l e R s m args below meth c Q D tA b B0 L xs a0 cE sE M (es) (ls) (st) (h)) : am_Gl p l e R s m args below meth c Q D tA b B0 L xs a0 cE sE M ((pc, .ifCond .eq off, len, os, z) :: es) (ls) (.inl x :: st) (h) := by
  intro pc0 ad lsC H locs hpc hchk hRe
  have hpc := hpc _ rfl
  dsimp only at hpc
  subst hpc
  obtain ⟨hdec, hlk, -, hnx, hck⟩ := am_chk_cons hchk rfl
  simp only [am_okL, Bool.and_eq_true, beq_iff_eq, decide_eq_true_eq] at hlk
  obtain ⟨rfl, hoff⟩ := hlk
  obtain ⟨hx, hb, hr, hml, hown, hts, hlocks, hname, hK, hX, hb0, hB0, hL⟩ := id C
  have hnx := hnx.resolve_left (by simp [am_uncond])
  have ox := hRe.okst _ List.mem_cons_self
  have hq : Int32.ofInt x = 0 ↔ x = 0 := by have := am_eqI ox am_0I; rw [am_ofI0] at this; exact this
  refine lv_if_eq (tgt := ((pc : Int) + off).toNat) hx hb hdec (by omega) (fun hc => ?_) (fun hc => ?_)
  · rw [if_pos (hq.mp hc)] at K
    exact K _ ad lsC H locs (fun _ => am_at_head) (am_chk_at (am_ck_all M)) (hRe.pop (fun w hw => List.mem_cons_of_mem _ hw))
  · rw [if_neg (fun q => hc (hq.mpr q))] at K
    exact K (pc + 3) ad lsC H locs hnx hck (hRe.pop (fun w hw => List.mem_cons_of_mem _ hw))
theorem am_s_icmp_ne (C : am_Cx p s m args meth c D tA b B0 L xs M) {off : Int} (K : if ¬ x = y then am_Gl p l e R s m args below meth c Q D tA b B0 L xs a0 cE sE M (am_at (PG.1 M).1 ((pc : Int) + off).toNat) (ls) (st) (h) else am_Gl p l e R s m args below meth c Q D tA b B0 L xs a0 cE sE M (es) (ls) (st) (h)) : am_Gl p l e R s m args below meth c Q D tA b B0 L xs a0 cE sE M ((pc, .if_icmp .ne off, len, os, z) :: es) (ls) (.inl y :: .inl x :: st) (h) := by
  intro pc0 ad lsC H locs hpc hchk hRe
  have hpc := hpc _ rfl
  dsimp only at hpc
  subst hpc
  obtain ⟨hdec, hlk, -, hnx, hck⟩ := am_chk_cons hchk rfl
  simp only [am_okL, Bool.and_eq_true, beq_iff_eq, decide_eq_true_eq] at hlk
  obtain ⟨rfl, hoff⟩ := hlk
  obtain ⟨hx, hb, hr, hml, hown, hts, hlocks, hname, hK, hX, hb0, hB0, hL⟩ := id C
  have hnx := hnx.resolve_left (by simp [am_uncond])
  have oy := hRe.okst _ List.mem_cons_self
  have ox := hRe.okst _ (List.mem_cons_of_mem _ List.mem_cons_self)
  have hq : Int32.ofInt x = Int32.ofInt y ↔ x = y := am_eqI ox oy
  refine lv_icmp_ne (tgt := ((pc : Int) + off).toNat) hx hb hdec (by omega) (fun hc => ?_) (fun hc => ?_)
  · rw [if_pos (fun q => hc (hq.mpr q))] at K
    exact K _ ad lsC H locs (fun _ => am_at_head) (am_chk_at (am_ck_all M)) (hRe.pop (fun w hw => List.mem_cons_of_mem _ (List.mem_cons_of_mem _ hw)))
  · rw [if_neg (fun q => q (hq.mp hc))] at K
    exact K (pc + 3) ad lsC H locs hnx hck (hRe.pop (fun w hw => List.mem_cons_of_mem _ (List.mem_cons_of_mem _ hw)))
theorem am_s_if_ne (C : am_Cx p s m args meth c D tA b B0 L xs M) {off : Int} (K : if ¬ x = 0 then am_Gl p l e R s m args below meth c Q D tA b B0 L xs a0 cE sE M (am_at (PG.1 M).1 ((pc : Int) + off).toNat) (ls) (st) (h) else am_Gl p l e R s m args below meth c Q D tA b B0 L xs a0 cE sE M (es) (ls) (st) (h)) : am_Gl p l e R s m args below meth c Q D tA b B0 L xs a0 cE sE M ((pc, .ifCond .ne off, len, os, z) :: es) (ls) (.inl x :: st) (h) := by
  intro pc0 ad lsC H locs hpc hchk hRe
  have hpc := hpc _ rfl
  dsimp only at hpc
  subst hpc
  obtain ⟨hdec, hlk, -, hnx, hck⟩ := am_chk_cons hchk rfl
  simp only [am_okL, Bool.and_eq_true, beq_iff_eq, decide_eq_true_eq] at hlk
  obtain ⟨rfl, hoff⟩ := hlk
  obtain ⟨hx, hb, hr, hml, hown, hts, hlocks, hname, hK, hX, hb0, hB0, hL⟩ := id C
  have hnx := hnx.resolve_left (by simp [am_uncond])
  have ox := hRe.okst _ List.mem_cons_self
  have hq : Int32.ofInt x = 0 ↔ x = 0 := by have := am_eqI ox am_0I; rw [am_ofI0] at this; exact this
  refine lv_if_ne (tgt := ((pc : Int) + off).toNat) hx hb hdec (by omega) (fun hc => ?_) (fun hc => ?_)
  · rw [if_pos (fun q => hc (hq.mpr q))] at K
    exact K _ ad lsC H locs (fun _ => am_at_head) (am_chk_at (am_ck_all M)) (hRe.pop (fun w hw => List.mem_cons_of_mem _ hw))
  · rw [if_neg (fun q => q (hq.mp hc))] at K
    exact K (pc + 3) ad lsC H locs hnx hck (hRe.pop (fun w hw => List.mem_cons_of_mem _ hw))
theorem am_s_icmp_lt (C : am_Cx p s m args meth c D tA b B0 L xs M) {off : Int} (K : if x < y then am_Gl p l e R s m args below meth c Q D tA b B0 L xs a0 cE sE M (am_at (PG.1 M).1 ((pc : Int) + off).toNat) (ls) (st) (h) else am_Gl p l e R s m args below meth c Q D tA b B0 L xs a0 cE sE M (es) (ls) (st) (h)) : am_Gl p l e R s m args below meth c Q D tA b B0 L xs a0 cE sE M ((pc, .if_icmp .lt off, len, os, z) :: es) (ls) (.inl y :: .inl x :: st) (h) := by
  intro pc0 ad lsC H locs hpc hchk hRe
  have hpc := hpc _ rfl
  dsimp only at hpc
  subst hpc
  obtain ⟨hdec, hlk, -, hnx, hck⟩ := am_chk_cons hchk rfl
  simp only [am_okL, Bool.and_eq_true, beq_iff_eq, decide_eq_true_eq] at hlk
  obtain ⟨rfl, hoff⟩ := hlk
  obtain ⟨hx, hb, hr, hml, hown, hts, hlocks, hname, hK, hX, hb0, hB0, hL⟩ := id C
  have hnx := hnx.resolve_left (by simp [am_uncond])
  have oy := hRe.okst _ List.mem_cons_self
  have ox := hRe.okst _ (List.mem_cons_of_mem _ List.mem_cons_self)
  have hq : Int32.ofInt x < Int32.ofInt y ↔ x < y := am_ltI ox oy
  refine lv_icmp_lt (tgt := ((pc : Int) + off).toNat) hx hb hdec (by omega) (fun hc => ?_) (fun hc => ?_)
  · rw [if_pos (hq.mp hc)] at K
    exact K _ ad lsC H locs (fun _ => am_at_head) (am_chk_at (am_ck_all M)) (hRe.pop (fun w hw => List.mem_cons_of_mem _ (List.mem_cons_of_mem _ hw)))
  · rw [if_neg (fun q => hc (hq.mpr q))] at K
    exact K (pc + 3) ad lsC H locs hnx hck (hRe.pop (fun w hw => List.mem_cons_of_mem _ (List.mem_cons_of_mem _ hw)))
theorem am_s_if_lt (C : am_Cx p s m args meth c D tA b B0 L xs M) {off : Int} (K : if x < 0 then am_Gl p l e R s m args below meth c Q D tA b B0 L xs a0 cE sE M (am_at (PG.1 M).1 ((pc : Int) + off).toNat) (ls) (st) (h) else am_Gl p l e R s m args below meth c Q D tA b B0 L xs a0 cE sE M (es) (ls) (st) (h)) : am_Gl p l e R s m args below meth c Q D tA b B0 L xs a0 cE sE M ((pc, .ifCond .lt off, len, os, z) :: es) (ls) (.inl x :: st) (h) := by
  intro pc0 ad lsC H locs hpc hchk hRe
  have hpc := hpc _ rfl
  dsimp only at hpc
  subst hpc
  obtain ⟨hdec, hlk, -, hnx, hck⟩ := am_chk_cons hchk rfl
  simp only [am_okL, Bool.and_eq_true, beq_iff_eq, decide_eq_true_eq] at hlk
  obtain ⟨rfl, hoff⟩ := hlk
  obtain ⟨hx, hb, hr, hml, hown, hts, hlocks, hname, hK, hX, hb0, hB0, hL⟩ := id C
  have hnx := hnx.resolve_left (by simp [am_uncond])
  have ox := hRe.okst _ List.mem_cons_self
  have hq : Int32.ofInt x < 0 ↔ x < 0 := by have := am_ltI ox am_0I; rw [am_ofI0] at this; exact this
  refine lv_if_lt (tgt := ((pc : Int) + off).toNat) hx hb hdec (by omega) (fun hc => ?_) (fun hc => ?_)
  · rw [if_pos (hq.mp hc)] at K
    exact K _ ad lsC H locs (fun _ => am_at_head) (am_chk_at (am_ck_all M)) (hRe.pop (fun w hw => List.mem_cons_of_mem _ hw))
  · rw [if_neg (fun q => hc (hq.mpr q))] at K
    exact K (pc + 3) ad lsC H locs hnx hck (hRe.pop (fun w hw => List.mem_cons_of_mem _ hw))
theorem am_s_icmp_ge (C : am_Cx p s m args meth c D tA b B0 L xs M) {off : Int} (K : if y ≤ x then am_Gl p l e R s m args below meth c Q D tA b B0 L xs a0 cE sE M (am_at (PG.1 M).1 ((pc : Int) + off).toNat) (ls) (st) (h) else am_Gl p l e R s m args below meth c Q D tA b B0 L xs a0 cE sE M (es) (ls) (st) (h)) : am_Gl p l e R s m args below meth c Q D tA b B0 L xs a0 cE sE M ((pc, .if_icmp .ge off, len, os, z) :: es) (ls) (.inl y :: .inl x :: st) (h) := by
  intro pc0 ad lsC H locs hpc hchk hRe
  have hpc := hpc _ rfl
  dsimp only at hpc
  subst hpc
  obtain ⟨hdec, hlk, -, hnx, hck⟩ := am_chk_cons hchk rfl
  simp only [am_okL, Bool.and_eq_true, beq_iff_eq, decide_eq_true_eq] at hlk
  obtain ⟨rfl, hoff⟩ := hlk
  obtain ⟨hx, hb, hr, hml, hown, hts, hlocks, hname, hK, hX, hb0, hB0, hL⟩ := id C
  have hnx := hnx.resolve_left (by simp [am_uncond])
  have oy := hRe.okst _ List.mem_cons_self
  have ox := hRe.okst _ (List.mem_cons_of_mem _ List.mem_cons_self)
  have hq : Int32.ofInt y ≤ Int32.ofInt x ↔ y ≤ x := am_leI oy ox
  refine lv_icmp_ge (tgt := ((pc : Int) + off).toNat) hx hb hdec (by omega) (fun hc => ?_) (fun hc => ?_)
  · rw [if_pos (hq.mp hc)] at K
    exact K _ ad lsC H locs (fun _ => am_at_head) (am_chk_at (am_ck_all M)) (hRe.pop (fun w hw => List.mem_cons_of_mem _ (List.mem_cons_of_mem _ hw)))
  · rw [if_neg (fun q => hc (hq.mpr q))] at K
    exact K (pc + 3) ad lsC H locs hnx hck (hRe.pop (fun w hw => List.mem_cons_of_mem _ (List.mem_cons_of_mem _ hw)))
theorem am_s_if_ge (C : am_Cx p s m args meth c D tA b B0 L xs M) {off : Int} (K : if 0 ≤ x then am_Gl p l e R s m args below meth c Q D tA b B0 L xs a0 cE sE M (am_at (PG.1 M).1 ((pc : Int) + off).toNat) (ls) (st) (h) else am_Gl p l e R s m args below meth c Q D tA b B0 L xs a0 cE sE M (es) (ls) (st) (h)) : am_Gl p l e R s m args below meth c Q D tA b B0 L xs a0 cE sE M ((pc, .ifCond .ge off, len, os, z) :: es) (ls) (.inl x :: st) (h) := by
  intro pc0 ad lsC H locs hpc hchk hRe
  have hpc := hpc _ rfl
  dsimp only at hpc
  subst hpc
  obtain ⟨hdec, hlk, -, hnx, hck⟩ := am_chk_cons hchk rfl
  simp only [am_okL, Bool.and_eq_true, beq_iff_eq, decide_eq_true_eq] at hlk
  obtain ⟨rfl, hoff⟩ := hlk
  obtain ⟨hx, hb, hr, hml, hown, hts, hlocks, hname, hK, hX, hb0, hB0, hL⟩ := id C
  have hnx := hnx.resolve_left (by simp [am_uncond])
  have ox := hRe.okst _ List.mem_cons_self
  have hq : 0 ≤ Int32.ofInt x ↔ 0 ≤ x := by have := am_leI am_0I ox; rw [am_ofI0] at this; exact this
  refine lv_if_ge (tgt := ((pc : Int) + off).toNat) hx hb hdec (by omega) (fun hc => ?_) (fun hc => ?_)
  · rw [if_pos (hq.mp hc)] at K
    exact K _ ad lsC H locs (fun _ => am_at_head) (am_chk_at (am_ck_all M)) (hRe.pop (fun w hw => List.mem_cons_of_mem _ hw))
  · rw [if_neg (fun q => hc (hq.mpr q))] at K
    exact K (pc + 3) ad lsC H locs hnx hck (hRe.pop (fun w hw => List.mem_cons_of_mem _ hw))
theorem am_s_icmp_gt (C : am_Cx p s m args meth c D tA b B0 L xs M) {off : Int} (K : if y < x then am_Gl p l e R s m args below meth c Q D tA b B0 L xs a0 cE sE M (am_at (PG.1 M).1 ((pc : Int) + off).toNat) (ls) (st) (h) else am_Gl p l e R s m args below meth c Q D tA b B0 L xs a0 cE sE M (es) (ls) (st) (h)) : am_Gl p l e R s m args below meth c Q D tA b B0 L xs a0 cE sE M ((pc, .if_icmp .gt off, len, os, z) :: es) (ls) (.inl y :: .inl x :: st) (h) := by
  intro pc0 ad lsC H locs hpc hchk hRe
  have hpc := hpc _ rfl
  dsimp only at hpc
  subst hpc
  obtain ⟨hdec, hlk, -, hnx, hck⟩ := am_chk_cons hchk rfl
  simp only [am_okL, Bool.and_eq_true, beq_iff_eq, decide_eq_true_eq] at hlk
  obtain ⟨rfl, hoff⟩ := hlk
  obtain ⟨hx, hb, hr, hml, hown, hts, hlocks, hname, hK, hX, hb0, hB0, hL⟩ := id C
  have hnx := hnx.resolve_left (by simp [am_uncond])
  have oy := hRe.okst _ List.mem_cons_self
  have ox := hRe.okst _ (List.mem_cons_of_mem _ List.mem_cons_self)
  have hq : Int32.ofInt y < Int32.ofInt x ↔ y < x := am_ltI oy ox
  refine lv_icmp_gt (tgt := ((pc : Int) + off).toNat) hx hb hdec (by omega) (fun hc => ?_) (fun hc => ?_)
  · rw [if_pos (hq.mp hc)] at K
    exact K _ ad lsC H locs (fun _ => am_at_head) (am_chk_at (am_ck_all M)) (hRe.pop (fun w hw => List.mem_cons_of_mem _ (List.mem_cons_of_mem _ hw)))
  · rw [if_neg (fun q => hc (hq.mpr q))] at K
    exact K (pc + 3) ad lsC H locs hnx hck (hRe.pop (fun w hw => List.mem_cons_of_mem _ (List.mem_cons_of_mem _ hw)))
theorem am_s_if_gt (C : am_Cx p s m args meth c D tA b B0 L xs M) {off : Int} (K : if 0 < x then am_Gl p l e R s m args below meth c Q D tA b B0 L xs a0 cE sE M (am_at (PG.1 M).1 ((pc : Int) + off).toNat) (ls) (st) (h) else am_Gl p l e R s m args below meth c Q D tA b B0 L xs a0 cE sE M (es) (ls) (st) (h)) : am_Gl p l e R s m args below meth c Q D tA b B0 L xs a0 cE sE M ((pc, .ifCond .gt off, len, os, z) :: es) (ls) (.inl x :: st) (h) := by
  intro pc0 ad lsC H locs hpc hchk hRe
  have hpc := hpc _ rfl
  dsimp only at hpc
  subst hpc
  obtain ⟨hdec, hlk, -, hnx, hck⟩ := am_chk_cons hchk rfl
  simp only [am_okL, Bool.and_eq_true, beq_iff_eq, decide_eq_true_eq] at hlk
  obtain ⟨rfl, hoff⟩ := hlk
  obtain ⟨hx, hb, hr, hml, hown, hts, hlocks, hname, hK, hX, hb0, hB0, hL⟩ := id C
  have hnx := hnx.resolve_left (by simp [am_uncond])
  have ox := hRe.okst _ List.mem_cons_self
  have hq : 0 < Int32.ofInt x ↔ 0 < x := by have := am_ltI am_0I ox; rw [am_ofI0] at this; exact this
  refine lv_if_gt (tgt := ((pc : Int) + off).toNat) hx hb hdec (by omega) (fun hc => ?_) (fun hc => ?_)
  · rw [if_pos (hq.mp hc)] at K
    exact K _ ad lsC H locs (fun _ => am_at_head) (am_chk_at (am_ck_all M)) (hRe.pop (fun w hw => List.mem_cons_of_mem _ hw))
  · rw [if_neg (fun q => hc (hq.mpr q))] at K
    exact K (pc + 3) ad lsC H locs hnx hck (hRe.pop (fun w hw => List.mem_cons_of_mem _ hw))
theorem am_s_icmp_le (C : am_Cx p s m args meth c D tA b B0 L xs M) {off : Int} (K : if x ≤ y then am_Gl p l e R s m args below meth c Q D tA b B0 L xs a0 cE sE M (am_at (PG.1 M).1 ((pc : Int) + off).toNat) (ls) (st) (h) else am_Gl p l e R s m args below meth c Q D tA b B0 L xs a0 cE sE M (es) (ls) (st) (h)) : am_Gl p l e R s m args below meth c Q D tA b B0 L xs a0 cE sE M ((pc, .if_icmp .le off, len, os, z) :: es) (ls) (.inl y :: .inl x :: st) (h) := by
  intro pc0 ad lsC H locs hpc hchk hRe
  have hpc := hpc _ rfl
  dsimp only at hpc
  subst hpc
  obtain ⟨hdec, hlk, -, hnx, hck⟩ := am_chk_cons hchk rfl
  simp only [am_okL, Bool.and_eq_true, beq_iff_eq, decide_eq_true_eq] at hlk
  obtain ⟨rfl, hoff⟩ := hlk
  obtain ⟨hx, hb, hr, hml, hown, hts, hlocks, hname, hK, hX, hb0, hB0, hL⟩ := id C
  have hnx := hnx.resolve_left (by simp [am_uncond])
  have oy := hRe.okst _ List.mem_cons_self
  have ox := hRe.okst _ (List.mem_cons_of_mem _ List.mem_cons_self)
  have hq : Int32.ofInt x ≤ Int32.ofInt y ↔ x ≤ y := am_leI ox oy
  refine lv_icmp_le (tgt := ((pc : Int) + off).toNat) hx hb hdec (by omega) (fun hc => ?_) (fun hc => ?_)
  · rw [if_pos (hq.mp hc)] at K
    exact K _ ad lsC H locs (fun _ => am_at_head) (am_chk_at (am_ck_all M)) (hRe.pop (fun w hw => List.mem_cons_of_mem _ (List.mem_cons_of_mem _ hw)))
  · rw [if_neg (fun q => hc (hq.mpr q))] at K
    exact K (pc + 3) ad lsC H locs hnx hck (hRe.pop (fun w hw => List.mem_cons_of_mem _ (List.mem_cons_of_mem _ hw)))
theorem am_s_if_le (C : am_Cx p s m args meth c D tA b B0 L xs M) {off : Int} (K : if x ≤ 0 then am_Gl p l e R s m args below meth c Q D tA b B0 L xs a0 cE sE M (am_at (PG.1 M).1 ((pc : Int) + off).toNat) (ls) (st) (h) else am_Gl p l e R s m args below meth c Q D tA b B0 L xs a0 cE sE M (es) (ls) (st) (h)) : am_Gl p l e R s m args below meth c Q D tA b B0 L xs a0 cE sE M ((pc, .ifCond .le off, len, os, z) :: es) (ls) (.inl x :: st) (h) := by
  intro pc0 ad lsC H locs hpc hchk hRe
  have hpc := hpc _ rfl
  dsimp only at hpc
  subst hpc
  obtain ⟨hdec, hlk, -, hnx, hck⟩ := am_chk_cons hchk rfl
  simp only [am_okL, Bool.and_eq_true, beq_iff_eq, decide_eq_true_eq] at hlk
  obtain ⟨rfl, hoff⟩ := hlk
  obtain ⟨hx, hb, hr, hml, hown, hts, hlocks, hname, hK, hX, hb0, hB0, hL⟩ := id C
  have hnx := hnx.resolve_left (by simp [am_uncond])
  have ox := hRe.okst _ List.mem_cons_self
  have hq : Int32.ofInt x ≤ 0 ↔ x ≤ 0 := by have := am_leI ox am_0I; rw [am_ofI0] at this; exact this
  refine lv_if_le (tgt := ((pc : Int) + off).toNat) hx hb hdec (by omega) (fun hc => ?_) (fun hc => ?_)
  · rw [if_pos (hq.mp hc)] at K
    exact K _ ad lsC H locs (fun _ => am_at_head) (am_chk_at (am_ck_all M)) (hRe.pop (fun w hw => List.mem_cons_of_mem _ hw))
  · rw [if_neg (fun q => hc (hq.mpr q))] at K
    exact K (pc + 3) ad lsC H locs hnx hck (hRe.pop (fun w hw => List.mem_cons_of_mem _ hw))
theorem am_s_goto (C : am_Cx p s m args meth c D tA b B0 L xs M) {off : Int} (K : am_Gl p l e R s m args below meth c Q D tA b B0 L xs a0 cE sE M (am_at (PG.1 M).1 ((pc : Int) + off).toNat) (ls) (st) (h)) : am_Gl p l e R s m args below meth c Q D tA b B0 L xs a0 cE sE M ((pc, .goto off, len, os, z) :: es) (ls) (st) (h) := by
  intro pc0 ad lsC H locs hpc hchk hRe
  have hpc := hpc _ rfl
  dsimp only at hpc
  subst hpc
  obtain ⟨hdec, hlk, -, hnx, hck⟩ := am_chk_cons hchk rfl
  simp only [am_okL, Bool.and_eq_true, beq_iff_eq, decide_eq_true_eq] at hlk
  obtain ⟨rfl, hoff⟩ := hlk
  obtain ⟨hx, hb, hr, hml, hown, hts, hlocks, hname, hK, hX, hb0, hB0, hL⟩ := id C
  refine lv_goto (tgt := ((pc : Int) + off).toNat) hx hb hdec (by omega) ?_
  exact K _ ad lsC H locs (fun _ => am_at_head) (am_chk_at (am_ck_all M)) hRe
theorem am_s_tsw (C : am_Cx p s m args meth c D tA b B0 L xs M) {df lo hi : Int} {offs : Array Int} (K1 : (x < lo ∨ hi < x) → am_Gl p l e R s m args below meth c Q D tA b B0 L xs a0 cE sE M (am_at (PG.1 M).1 ((pc : Int) + df).toNat) (ls) (st) (h)) (K2 : ¬ (x < lo ∨ hi < x) → ∃ off, offs[(x - lo).toNat]? = some off ∧ am_Gl p l e R s m args below meth c Q D tA b B0 L xs a0 cE sE M (am_at (PG.1 M).1 ((pc : Int) + off).toNat) (ls) (st) (h)) : am_Gl p l e R s m args below meth c Q D tA b B0 L xs a0 cE sE M ((pc, .tableswitch df lo hi offs, len, os, z) :: es) (ls) (.inl x :: st) (h) := by
  intro pc0 ad lsC H locs hpc hchk hRe
  have hpc := hpc _ rfl
  dsimp only at hpc
  subst hpc
  obtain ⟨hdec, hlk, -, hnx, hck⟩ := am_chk_cons hchk rfl
  simp only [am_okL, Bool.and_eq_true, decide_eq_true_eq, Array.all_eq_true] at hlk
  obtain ⟨hdf, hoffs⟩ := hlk
  obtain ⟨hx, hb, hr, hml, hown, hts, hlocks, hname, hK, hX, hb0, hB0, hL⟩ := id C
  have ox := hRe.okst _ List.mem_cons_self
  have hxi : (Int32.ofInt x).toInt = x := am_oI_to ox
  by_cases hc : x < lo ∨ hi < x
  · refine lv_tableOut (tgt := ((pc : Int) + df).toNat) hx hb hdec (by rw [hxi]; exact hc) (by omega) ?_
    exact K1 hc _ ad lsC H locs (fun _ => am_at_head) (am_chk_at (am_ck_all M)) (hRe.pop (fun w hw => List.mem_cons_of_mem _ hw))
  · obtain ⟨off, ho, K⟩ := K2 hc
    have hlt := (Array.getElem?_eq_some_iff.mp ho)
    obtain ⟨hlt, hoe⟩ := hlt
    have h0 := hoffs _ hlt
    rw [hoe] at h0
    refine lv_tableIn (off := off) (tgt := ((pc : Int) + off).toNat) hx hb hdec (by rw [hxi]; omega) (by rw [hxi]; omega) (by rw [hxi]; exact ho) (by omega) ?_
    exact K _ ad lsC H locs (fun _ => am_at_head) (am_chk_at (am_ck_all M)) (hRe.pop (fun w hw => List.mem_cons_of_mem _ hw))
end AMS
