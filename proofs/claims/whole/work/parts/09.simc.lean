/-! making of cells, the kinds of calls that are no frames of the small machine (by wip/whole/sim2.py) -/
section AMN
variable {p : Program} {l : Launch} {e : Env} {R : Room} {s : State} {m : MethodId} {args : Array Value} {below : List Frame} {meth : Method} {c : Code} {Q : State → Prop} {D : va_G} {tA : Nat → ClassId} {b B0 L : Nat} {xs : Nat → Int32} {a0 : Nat → Nat} {cE sE M : Nat}
variable {pc len k : Nat} {os : List Nat} {z x y : Int} {es : List am_I} {ls st : List am_V} {h : am_H}
variable {ad : Nat → Nat} {H : Heap} {locs : List Loc} {lsC : Array Slot} {n : Nat}
def am_ua (ad : Nat → Nat) (k q : Nat) : Nat → Nat := fun j => if j = k then q else ad j
theorem am_ua_lt {k q : Nat} : ∀ j, j < k → am_ua ad k q j = ad j := fun j hj => if_neg (by omega)
theorem am_Re.new (r : am_Re s D tA b B0 L xs a0 n cE sE ad h H locs ls lsC st) {q : Nat} {E : am_E} {H1 : Heap} {st' : List am_V} (he : am_okE h.1.1 E) (hst : ∀ w ∈ st', w ∈ st)
    (hP : va_P D am_cl (am_ws tA ad h ++ [(q, am_cE tA ad E)]) H1) (hD : va_D (fun q : Nat => B0 ≤ q) (am_ws tA ad h ++ [(q, am_cE tA ad E)])) (hS : va_S (fun q : Nat => B0 ≤ q) s.heap H1 locs) :
    am_Re s D tA b B0 L xs a0 n cE sE (am_ua ad h.1.1 q) (am_push h E) H1 locs ls lsC (.inr (.inr (some h.1.1)) :: st') := by
  obtain ⟨a1, a2, a3, a4, a5, a6, a7, a8, a9, a10, a11, a12, a13, a14⟩ := r
  have hlt := am_ua_lt (ad := ad) (k := h.1.1) (q := q)
  have hq : am_ua ad h.1.1 q h.1.1 = q := if_pos rfl
  have hw := am_ws_push (tA := tA) (ad := ad) (e := E) a5 hq hlt a7
  rw [am_cE_ext hlt he] at hw
  rw [← hw] at hP hD
  refine ⟨hP, hD, ⟨(hlt 0 (by omega)).trans a3.1, fun k hk => (hlt k (by omega)).trans (a3.2 k hk)⟩, ?_, Nat.le_succ_of_le a5, fun k hk => ?_, fun k => ?_, a8.ext hlt a10, a9, fun v hv => am_okV_mono (Nat.le_succ _) (a10 v hv), fun v hv => ?_, hS, Nat.le_succ_of_le a13, Nat.le_trans a14 (Nat.le_add_right _ _)⟩
  · show (if 0 = h.1.1 then E else h.2 0) = _
    rw [if_neg (by omega)]
    exact a4
  · have hk' : h.1.1 + 1 ≤ k := hk
    show (if k = h.1.1 then E else h.2 k) = _
    rw [if_neg (by omega)]
    exact a6 k (by omega)
  · show am_okE (h.1.1 + 1) (if k = h.1.1 then E else h.2 k)
    split
    · exact am_okE_mono (Nat.le_succ _) he
    · exact am_okE_mono (Nat.le_succ _) (a7 k)
  · rcases List.mem_cons.mp hv with rfl | hv
    · exact Nat.lt_succ_self _
    · exact am_okV_mono (Nat.le_succ _) (a11 v (hst v hv))
theorem am_ref_st (r : am_Re s D tA b B0 L xs a0 n cE sE ad h H locs ls lsC st) {q : Nat} {st' : List am_V} (hst : ∀ w ∈ st', w ∈ st) : (Sum.inr (Sum.inr (some h.1.1)) :: st').map (am_cv (am_ua ad h.1.1 q)) = Value.ref q :: st'.map (am_cv ad) := by
  rw [List.map_cons, am_cvs_ext am_ua_lt (fun v hv => r.okst v (hst v hv))]
  show Value.ref (am_ua ad h.1.1 q h.1.1) :: _ = _
  rw [show am_ua ad h.1.1 q h.1.1 = q from if_pos rfl]
theorem am_tA_eq {t : Nat} {ty : FieldType} {cA : ClassId} (hK : va_K D am_cl (am_tys tA) s) (ht : (am_tys tA)[t]? = some (tA t, ty)) (hK' : va_K D am_cl (am_tys tA ++ [(cA, ty)]) s) : cA = tA t := by
  have h1 := (hK.2 t _ ht).2
  have h2 := (hK'.2 5 (cA, ty) rfl).2
  cases ty with
  | object C =>
    obtain ⟨kA, comp, -, -, -, f4⟩ := h1
    obtain ⟨kB, comp2, -, -, -, g4⟩ := h2
    exact Option.some.inj (g4.symm.trans f4)
  | _ => exact Option.some.inj (h2.symm.trans h1)
theorem am_na_ok {t N : Nat} (ht : t < 5) (hN : N ≤ 100000) : am_okE h.1.1 (am_na t N) := by
  have hN2 : N < 2 ^ 31 := by omega
  rcases (show t = 0 ∨ t = 1 ∨ t = 2 ∨ t = 3 ∨ t = 4 by omega) with rfl | rfl | rfl | rfl | rfl
  · exact ⟨hN2, fun _ => am_0I, Or.inl rfl⟩
  · exact ⟨hN2, fun _ => am_I_L am_0I, rfl⟩
  · exact ⟨hN2, fun _ => am_0I, Or.inr (Or.inl rfl)⟩
  · exact ⟨hN2, fun _ => am_0I, Or.inr (Or.inr (Or.inl rfl))⟩
  · exact ⟨hN2, fun _ _ hq => (by cases hq), rfl⟩
theorem am_na_prim {t N : Nat} (ht : t < 4) : ∃ v0 : vp_A, am_cE tA ad (am_na t N) = .inl (tA t, v0) ∧ ∀ cA : ClassId, vp_cell cA v0 = arrV cA N (fun _ => defaultValue (am_aty t)) := by
  rcases (show t = 0 ∨ t = 1 ∨ t = 2 ∨ t = 3 by omega) with rfl | rfl | rfl | rfl
  · exact ⟨_, rfl, fun cA => by show arrV cA N (fun _ => Value.int (Int32.ofInt 0)) = _; rw [am_ofI0]; rfl⟩
  · exact ⟨_, rfl, fun cA => by show arrV cA N (fun _ => Value.long (Int64.ofInt 0)) = _; rw [show Int64.ofInt 0 = 0 by decide +kernel]; rfl⟩
  · exact ⟨_, rfl, fun cA => by show arrV cA N (fun _ => Value.int (Int32.ofInt 0)) = _; rw [am_ofI0]; rfl⟩
  · exact ⟨_, rfl, fun cA => by show arrV cA N (fun _ => Value.int (Int32.ofInt 0)) = _; rw [am_ofI0]; rfl⟩
theorem am_tys_t {t : Nat} (ht : t < 5) : (am_tys tA)[t]? = some (tA t, am_aty t) := by
  rcases (show t = 0 ∨ t = 1 ∨ t = 2 ∨ t = 3 ∨ t = 4 by omega) with rfl | rfl | rfl | rfl | rfl <;> rfl
theorem am_cbytes {t : Nat} (ht : t < 4) : componentBytes (am_aty t) ≤ 8 := by
  rcases (show t = 0 ∨ t = 1 ∨ t = 2 ∨ t = 3 by omega) with rfl | rfl | rfl | rfl <;> decide
theorem am_s_newa (C : am_Cx p s m args meth c D tA b B0 L xs M) {at_ : ArrayType} {t w : Nat} (h0 : 0 ≤ x) (hx1 : x ≤ 100000) (hc1 : h.1.1 + 1 ≤ cE + R.cells) (hc2 : h.1.2 + am_sz (am_na t x.toNat) ≤ sE + R.slots) (K : am_Gl p l e R s m args below meth c Q D tA b B0 L xs a0 cE sE M (es) (ls) (.inr (.inr (some h.1.1)) :: st) (am_push h (am_na t x.toNat))) : am_Gl p l e R s m args below meth c Q D tA b B0 L xs a0 cE sE M ((pc, .newarray at_, len, [t, w], z) :: es) (ls) (.inl x :: st) (h) := by
  intro pc0 ad lsC H locs hpc hchk hRe
  have hpc := hpc _ rfl
  dsimp only at hpc
  subst hpc
  obtain ⟨hdec, hlk, -, hnx, hck⟩ := am_chk_cons hchk rfl
  simp only [am_okL, Bool.and_eq_true, beq_iff_eq, decide_eq_true_eq] at hlk
  obtain ⟨⟨⟨rfl, ht⟩, hty⟩, hw⟩ := hlk
  obtain ⟨hx, hb, hr, hml, hown, hts, hlocks, hname, hK, hX, hb0, hB0, hL⟩ := id C
  have hnx := hnx.resolve_left (by simp [am_uncond])
  have hxi : am_inI x := ⟨by omega, by omega⟩
  obtain ⟨v0, ha0, ha⟩ := am_na_prim (tA := tA) (ad := ad) (N := x.toNat) ht
  have hcb := am_cbytes ht
  have hle : x.toNat ≤ 100000 := by omega
  have hsz : am_sz (am_na t x.toNat) = x.toNat := rfl
  rw [hsz] at hc2
  have hsE := hRe.2.2.2.2.2.2.2.2.2.2.2.2
  refine va_newa (ty := am_aty t) (N' := x.toNat) (a0 := v0) hx hb (hts _ (am_wd_mem hw)) hty hK hRe.1 hRe.2.1 hRe.S (fun q hq => Nat.le_trans hB0 hq) ha (am_nn hxi h0) (am_clamp hxi) (Nat.le_trans (Nat.mul_le_mul hle hcb) (by omega)) (by omega) (by omega) hdec (fun q cA H1 hK' hP hD hS => ?_)
  have hcA := am_tA_eq hK (am_tys_t (by omega)) hK'
  subst hcA
  rw [← ha0] at hP hD
  have K' := K (pc + 2) _ lsC H1 locs hnx hck (hRe.new (am_na_ok (by omega) hle) (fun w hw => List.mem_cons_of_mem _ hw) hP hD hS)
  rw [am_ref_st hRe (fun w hw => List.mem_cons_of_mem _ hw)] at K'
  rw [show h.1.1 - cE + 1 = (am_push h (am_na t x.toNat)).1.1 - cE by show _ = h.1.1 + 1 - cE; omega, show h.1.2 - sE + x.toNat = (am_push h (am_na t x.toNat)).1.2 - sE by show _ = h.1.2 + x.toNat - sE; omega]
  exact K'
theorem am_s_newq (C : am_Cx p s m args meth c D tA b B0 L xs M) {idx w w2 : Nat} (h0 : 0 ≤ x) (hx1 : x ≤ 100000) (hc1 : h.1.1 + 1 ≤ cE + R.cells) (hc2 : h.1.2 + am_sz (am_na 4 x.toNat) ≤ sE + R.slots) (K : am_Gl p l e R s m args below meth c Q D tA b B0 L xs a0 cE sE M (es) (ls) (.inr (.inr (some h.1.1)) :: st) (am_push h (am_na 4 x.toNat))) : am_Gl p l e R s m args below meth c Q D tA b B0 L xs a0 cE sE M ((pc, .anewarray idx, len, [w, w2], z) :: es) (ls) (.inl x :: st) (h) := by
  intro pc0 ad lsC H locs hpc hchk hRe
  have hpc := hpc _ rfl
  dsimp only at hpc
  subst hpc
  obtain ⟨hdec, hlk, -, hnx, hck⟩ := am_chk_cons hchk rfl
  simp only [am_okL, Bool.and_eq_true, beq_iff_eq, decide_eq_true_eq] at hlk
  obtain ⟨⟨rfl, hw⟩, hw2⟩ := hlk
  obtain ⟨hx, hb, hr, hml, hown, hts, hlocks, hname, hK, hX, hb0, hB0, hL⟩ := id C
  have hnx := hnx.resolve_left (by simp [am_uncond])
  have hxi : am_inI x := ⟨by omega, by omega⟩
  have hle : x.toNat ≤ 100000 := by omega
  have hsz : am_sz (am_na 4 x.toNat) = x.toNat := rfl
  rw [hsz] at hc2
  have hsE := hRe.2.2.2.2.2.2.2.2.2.2.2.2
  have hAO : va_AO "NumberWords$Book" s := hts _ (am_wd_mem hw2)
  refine va_newq (N' := x.toNat) hx hb hown (hts _ (am_wd_mem hw)) hAO hK hRe.1 hRe.2.1 hRe.S (fun q hq => Nat.le_trans hB0 hq) (am_nn hxi h0) (am_clamp hxi) (by omega) (by omega) (by omega) hdec (fun q cA H1 hK' hP hD hS => ?_)
  have hcA := am_tA_eq (t := 4) hK rfl hK'
  subst hcA
  have K' := K (pc + 3) _ lsC H1 locs hnx hck (hRe.new (am_na_ok (t := 4) (by omega) hle) (fun w hw => List.mem_cons_of_mem _ hw) hP hD hS)
  rw [am_ref_st hRe (fun w hw => List.mem_cons_of_mem _ hw)] at K'
  rw [show h.1.1 - cE + 1 = (am_push h (am_na 4 x.toNat)).1.1 - cE by show _ = h.1.1 + 1 - cE; omega, show h.1.2 - sE + x.toNat = (am_push h (am_na 4 x.toNat)).1.2 - sE by show _ = h.1.2 + x.toNat - sE; omega]
  exact K'
theorem am_df_ok : (List.range 11).all (fun ci => decide ((am_df ci).length = am_Nf ci) && (am_df ci).all (fun v => match v with
  | .inl x => decide (x = 0)
  | .inr (.inr none) => true
  | _ => false) && (List.range (am_Nf ci)).all (fun j => decide (defaultValue (am_fty ci j) = vp_V ((am_df ci).map (am_cv id)) j))) = true := by decide +kernel
theorem am_df_okV {ci : Nat} (hci : ci < 11) (n : Nat) : ∀ v ∈ am_df ci, am_okV n v := by
  intro v hv
  have h1 := List.all_eq_true.mp am_df_ok ci (List.mem_range.mpr hci)
  simp only [Bool.and_eq_true] at h1
  have h2 := List.all_eq_true.mp h1.1.2 v hv
  split at h2
  next x => obtain rfl := of_decide_eq_true h2; exact am_0I
  next => trivial
  next => cases h2
theorem am_s_new (C : am_Cx p s m args meth c D tA b B0 L xs M) {idx ci w1 w2 w3 : Nat} (hc1 : h.1.1 + 1 ≤ cE + R.cells) (hc2 : h.1.2 + am_sz (.inr (ci, am_df ci)) ≤ sE + R.slots) (K : am_Gl p l e R s m args below meth c Q D tA b B0 L xs a0 cE sE M (es) (ls) (.inr (.inr (some h.1.1)) :: st) (am_push h (.inr (ci, am_df ci)))) : am_Gl p l e R s m args below meth c Q D tA b B0 L xs a0 cE sE M ((pc, .new idx, len, [ci, w1, w2, w3], z) :: es) (ls) (st) (h) := by
  intro pc0 ad lsC H locs hpc hchk hRe
  have hpc := hpc _ rfl
  dsimp only at hpc
  subst hpc
  obtain ⟨hdec, hlk, -, hnx, hck⟩ := am_chk_cons hchk (by simp [am_stop, am_bad])
  simp only [am_okL, Bool.and_eq_true, beq_iff_eq, decide_eq_true_eq] at hlk
  obtain ⟨⟨⟨⟨rfl, hci⟩, hw1⟩, hw2⟩, hw3⟩ := hlk
  obtain ⟨hx, hb, hr, hml, hown, hts, hlocks, hname, hK, hX, hb0, hB0, hL⟩ := id C
  have hnx := hnx.resolve_left (by simp [am_uncond])
  have hd := List.all_eq_true.mp am_df_ok ci (List.mem_range.mpr hci)
  simp only [Bool.and_eq_true, decide_eq_true_eq] at hd
  obtain ⟨⟨hdl, -⟩, hdv⟩ := hd
  have hmap : (am_df ci).map (am_cv id) = (am_df ci).map (am_cv ad) := am_cvs_ext (n := 0) (fun k hk => by omega) (am_df_okV hci 0)
  have hsz : am_sz (.inr (ci, am_df ci)) = am_Nf ci := hdl
  rw [hsz] at hc2
  have hsE := hRe.2.2.2.2.2.2.2.2.2.2.2.2
  refine va_new (fs := (am_df ci).map (am_cv ad)) hx hb hts (am_in hci) (am_fty ci) (am_ftyp hci) hown (hts _ (am_wd_mem hw1)) (hts _ (am_wd_mem hw2)) (hts _ (am_wd_mem hw3)) hK hRe.1 hRe.2.1 hRe.S (fun q hq => Nat.le_trans hB0 hq) (am_cl_at hci) (fun j hj => ?_) (by omega) (by omega) hdec (fun q H1 hP hD hS => ?_)
  · rw [← hmap]; exact of_decide_eq_true (List.all_eq_true.mp hdv j (List.mem_range.mpr hj))
  have K' := K (pc + 3) _ lsC H1 locs hnx hck (hRe.new (E := .inr (ci, am_df ci)) (am_df_okV hci _) (fun _ q => q) hP hD hS)
  rw [am_ref_st hRe (fun _ q => q)] at K'
  rw [show h.1.1 - cE + 1 = (am_push h (.inr (ci, am_df ci))).1.1 - cE by show _ = h.1.1 + 1 - cE; omega, show h.1.2 - sE + am_Nf ci = (am_push h (.inr (ci, am_df ci))).1.2 - sE by show _ = h.1.2 + am_sz (.inr (ci, am_df ci)) - sE; rw [hsz]; omega]
  exact K'
theorem am_s_obj (C : am_Cx p s m args meth c D tA b B0 L xs M) {idx wl wi wc q : Nat} (hf : 1 ≤ R.frames) (hlo : 40 ≤ R.locals) (hcs : am_cats st ≤ 8) (K : am_Gl p l e R s m args below meth c Q D tA b B0 L xs a0 cE sE M (es) (ls) (st) (h)) : am_Gl p l e R s m args below meth c Q D tA b B0 L xs a0 cE sE M ((pc, .invokespecial idx, len, [1, wl, wi, wc], z) :: es) (ls) (.inr (.inr (some q)) :: st) (h) := by
  intro pc0 ad lsC H locs hpc hchk hRe
  have hpc := hpc _ rfl
  dsimp only at hpc
  subst hpc
  obtain ⟨hdec, hlk, -, hnx, hck⟩ := am_chk_cons hchk rfl
  simp only [am_okL, am_okC, Bool.and_eq_true, beq_iff_eq] at hlk
  obtain ⟨⟨⟨⟨rfl, -⟩, h1⟩, h2⟩, h3⟩ := hlk
  obtain ⟨hx, hb, hr, hml, hown, hts, hlocks, hname, hK, hX, hb0, hB0, hL⟩ := id C
  have hnx := hnx.resolve_left (by simp [am_uncond])
  refine W.objInit (g := F0 m pc lsC (.ref (ad q) :: st.map (am_cv ad))) hx hb hown (hts _ (am_wd_mem h1)) (hts _ (am_wd_mem h2)) (hts _ (am_wd_mem h3)) rfl (hRe.LR.1.trans (hRe.len.trans hml.symm)) rfl hdec hf ?_ ?_
  · show 2 * 0 + _ + 12 ≤ _
    rw [am_cats_cv]
    omega
  · exact K (pc + 3) ad lsC H locs hnx hck (hRe.pop (fun w hw => List.mem_cons_of_mem _ hw))
theorem am_s_max (C : am_Cx p s m args meth c D tA b B0 L xs M) {idx wl ws wi wc : Nat} (hf : 1 ≤ R.frames) (hlo : 40 ≤ R.locals) (hcs : am_cats st ≤ 8) (hc1 : h.1.1 ≤ cE + R.cells) (hc2 : h.1.2 ≤ sE + R.slots) (K : am_Gl p l e R s m args below meth c Q D tA b B0 L xs a0 cE sE M (es) (ls) (.inl (am_max x y) :: st) (h)) : am_Gl p l e R s m args below meth c Q D tA b B0 L xs a0 cE sE M ((pc, .invokestatic idx, len, [2, wl, ws, wi, wc], z) :: es) (ls) (.inl y :: .inl x :: st) (h) := by
  intro pc0 ad lsC H locs hpc hchk hRe
  have hpc := hpc _ rfl
  dsimp only at hpc
  subst hpc
  obtain ⟨hdec, hlk, -, hnx, hck⟩ := am_chk_cons hchk rfl
  simp only [am_okL, am_okC, Bool.and_eq_true, beq_iff_eq] at hlk
  obtain ⟨⟨⟨⟨⟨rfl, -⟩, h1⟩, h2⟩, h3⟩, h4⟩ := hlk
  obtain ⟨hx, hb, hr, hml, hown, hts, hlocks, hname, hK, hX, hb0, hB0, hL⟩ := id C
  have hnx := hnx.resolve_left (by simp [am_uncond])
  have oy := hRe.okst _ List.mem_cons_self
  have ox := hRe.okst _ (List.mem_cons_of_mem _ List.mem_cons_self)
  refine va_mmax hx hb (hml.trans (hRe.len.symm.trans hRe.LR.1.symm)) hown (hts _ (am_wd_mem h1)) (hts _ (am_wd_mem h2)) (hts _ (am_wd_mem h3)) (hts _ (am_wd_mem h4)) hf (by rw [am_cats_cv]; omega) (by omega) (by omega) hdec ?_
  have e : (if Int32.ofInt x < Int32.ofInt y then Int32.ofInt y else Int32.ofInt x) = Int32.ofInt (am_max x y) := by
    unfold am_max
    by_cases g : x < y
    · rw [if_pos ((am_ltI ox oy).mpr g), if_pos g]
    · rw [if_neg (fun q => g ((am_ltI ox oy).mp q)), if_neg g]
  rw [e]
  refine K (pc + 3) ad lsC H locs hnx hck (hRe.push (v := .inl (am_max x y)) ?_ (fun w hw => List.mem_cons_of_mem _ (List.mem_cons_of_mem _ hw)))
  unfold am_max
  split
  · exact oy
  · exact ox
theorem am_s_min (C : am_Cx p s m args meth c D tA b B0 L xs M) {idx wl ws wi wc : Nat} (hf : 1 ≤ R.frames) (hlo : 40 ≤ R.locals) (hcs : am_cats st ≤ 8) (hc1 : h.1.1 ≤ cE + R.cells) (hc2 : h.1.2 ≤ sE + R.slots) (K : am_Gl p l e R s m args below meth c Q D tA b B0 L xs a0 cE sE M (es) (ls) (.inl (am_min x y) :: st) (h)) : am_Gl p l e R s m args below meth c Q D tA b B0 L xs a0 cE sE M ((pc, .invokestatic idx, len, [3, wl, ws, wi, wc], z) :: es) (ls) (.inl y :: .inl x :: st) (h) := by
  intro pc0 ad lsC H locs hpc hchk hRe
  have hpc := hpc _ rfl
  dsimp only at hpc
  subst hpc
  obtain ⟨hdec, hlk, -, hnx, hck⟩ := am_chk_cons hchk rfl
  simp only [am_okL, am_okC, Bool.and_eq_true, beq_iff_eq] at hlk
  obtain ⟨⟨⟨⟨⟨rfl, -⟩, h1⟩, h2⟩, h3⟩, h4⟩ := hlk
  obtain ⟨hx, hb, hr, hml, hown, hts, hlocks, hname, hK, hX, hb0, hB0, hL⟩ := id C
  have hnx := hnx.resolve_left (by simp [am_uncond])
  have oy := hRe.okst _ List.mem_cons_self
  have ox := hRe.okst _ (List.mem_cons_of_mem _ List.mem_cons_self)
  refine va_mmin hx hb (hml.trans (hRe.len.symm.trans hRe.LR.1.symm)) hown (hts _ (am_wd_mem h1)) (hts _ (am_wd_mem h2)) (hts _ (am_wd_mem h3)) (hts _ (am_wd_mem h4)) hf (by rw [am_cats_cv]; omega) (by omega) (by omega) hdec ?_
  have e : (if Int32.ofInt y < Int32.ofInt x then Int32.ofInt y else Int32.ofInt x) = Int32.ofInt (am_min x y) := by
    unfold am_min
    by_cases g : y < x
    · rw [if_pos ((am_ltI oy ox).mpr g), if_pos g]
    · rw [if_neg (fun q => g ((am_ltI oy ox).mp q)), if_neg g]
  rw [e]
  refine K (pc + 3) ad lsC H locs hnx hck (hRe.push (v := .inl (am_min x y)) ?_ (fun w hw => List.mem_cons_of_mem _ (List.mem_cons_of_mem _ hw)))
  unfold am_min
  split
  · exact oy
  · exact ox
theorem am_s_lmin (C : am_Cx p s m args meth c D tA b B0 L xs M) {idx wl ws wi wc : Nat} (hf : 1 ≤ R.frames) (hlo : 40 ≤ R.locals) (hcs : am_cats st ≤ 8) (hc1 : h.1.1 ≤ cE + R.cells) (hc2 : h.1.2 ≤ sE + R.slots) (K : am_Gl p l e R s m args below meth c Q D tA b B0 L xs a0 cE sE M (es) (ls) (.inr (.inl (am_min x y)) :: st) (h)) : am_Gl p l e R s m args below meth c Q D tA b B0 L xs a0 cE sE M ((pc, .invokestatic idx, len, [4, wl, ws, wi, wc], z) :: es) (ls) (.inr (.inl y) :: .inr (.inl x) :: st) (h) := by
  intro pc0 ad lsC H locs hpc hchk hRe
  have hpc := hpc _ rfl
  dsimp only at hpc
  subst hpc
  obtain ⟨hdec, hlk, -, hnx, hck⟩ := am_chk_cons hchk rfl
  simp only [am_okL, am_okC, Bool.and_eq_true, beq_iff_eq] at hlk
  obtain ⟨⟨⟨⟨⟨rfl, -⟩, h1⟩, h2⟩, h3⟩, h4⟩ := hlk
  obtain ⟨hx, hb, hr, hml, hown, hts, hlocks, hname, hK, hX, hb0, hB0, hL⟩ := id C
  have hnx := hnx.resolve_left (by simp [am_uncond])
  have oy := hRe.okst _ List.mem_cons_self
  have ox := hRe.okst _ (List.mem_cons_of_mem _ List.mem_cons_self)
  refine va_mmin_long hx hb (hml.trans (hRe.len.symm.trans hRe.LR.1.symm)) hown (hts _ (am_wd_mem h1)) (hts _ (am_wd_mem h2)) (hts _ (am_wd_mem h3)) (hts _ (am_wd_mem h4)) hf (by rw [am_cats_cv]; omega) (by omega) (by omega) hdec ?_
  have e : (if Int64.ofInt y < Int64.ofInt x then Int64.ofInt y else Int64.ofInt x) = Int64.ofInt (am_min x y) := by
    unfold am_min
    by_cases g : y < x
    · rw [if_pos ((am_ltL oy ox).mpr g), if_pos g]
    · rw [if_neg (fun q => g ((am_ltL oy ox).mp q)), if_neg g]
  rw [e]
  refine K (pc + 3) ad lsC H locs hnx hck (hRe.push (v := .inr (.inl (am_min x y))) ?_ (fun w hw => List.mem_cons_of_mem _ (List.mem_cons_of_mem _ hw)))
  unfold am_min
  split
  · exact oy
  · exact ox
theorem am_cp_sp {h' : am_H} {p0 a : Nat} {sp dp n : Int} (hg : am_cp h p0 sp a dp n = some h') : 0 ≤ sp ∧ 0 ≤ dp ∧ 0 ≤ n ∧ ((∃ n0 n1 f g, h.2 p0 = .inl (0, n0, .inl f) ∧ h.2 a = .inl (0, n1, .inl g) ∧ sp + n ≤ n0 ∧ dp + n ≤ n1 ∧ h' = am_up h a (.inl (0, n1, .inl (va_cpy f g sp.toNat dp.toNat n.toNat)))) ∨ (∃ n0 n1 f g, h.2 p0 = .inl (1, n0, .inr (.inl f)) ∧ h.2 a = .inl (1, n1, .inr (.inl g)) ∧ sp + n ≤ n0 ∧ dp + n ≤ n1 ∧ h' = am_up h a (.inl (1, n1, .inr (.inl (va_cpy f g sp.toNat dp.toNat n.toNat)))))) := by
  unfold am_cp at hg
  split at hg
  next t0 n0 f t1 n1 g he0 he1 =>
    split at hg
    next hc => obtain ⟨rfl, rfl, h1, h2, h3, h4, h5⟩ := hc; cases hg; exact ⟨h1, h2, h3, Or.inl ⟨n0, n1, f, g, he0, he1, h4, h5, rfl⟩⟩
    next => cases hg
  next t0 n0 f t1 n1 g he0 he1 =>
    split at hg
    next hc => obtain ⟨rfl, rfl, h1, h2, h3, h4, h5⟩ := hc; cases hg; exact ⟨h1, h2, h3, Or.inr ⟨n0, n1, f, g, he0, he1, h4, h5, rfl⟩⟩
    next => cases hg
  next => cases hg
theorem am_nfw : nativeFrameWords "java/lang/System" "arraycopy" 5 = 7 := by decide +kernel
theorem am_s_copy (C : am_Cx p s m args meth c D tA b B0 L xs M) {idx wl wn ws wi p0 a : Nat} {sp dp : Int} {h' : am_H} (hf : 1 ≤ R.frames) (hlo : 40 ≤ R.locals) (hcs : am_cats st ≤ 8) (hl : am_cp h p0 sp a dp x = some h') (K : am_Gl p l e R s m args below meth c Q D tA b B0 L xs a0 cE sE M (es) (ls) (st) (h')) : am_Gl p l e R s m args below meth c Q D tA b B0 L xs a0 cE sE M ((pc, .invokestatic idx, len, [5, wl, wn, ws, wi], z) :: es) (ls) (.inl x :: .inl dp :: .inr (.inr (some a)) :: .inl sp :: .inr (.inr (some p0)) :: st) (h) := by
  intro pc0 ad lsC H locs hpc hchk hRe
  have hpc := hpc _ rfl
  dsimp only at hpc
  subst hpc
  obtain ⟨hdec, hlk, -, hnx, hck⟩ := am_chk_cons hchk rfl
  simp only [am_okL, am_okC, Bool.and_eq_true, beq_iff_eq] at hlk
  obtain ⟨⟨⟨⟨⟨rfl, -⟩, h1⟩, h2⟩, h3⟩, h4⟩ := hlk
  obtain ⟨hx, hb, hr, hml, hown, hts, hlocks, hname, hK, hX, hb0, hB0, hL⟩ := id C
  have hnx := hnx.resolve_left (by simp [am_uncond])
  obtain ⟨p1, p2, p3, hcase⟩ := am_cp_sp hl
  have ox : am_inI x := hRe.okst (.inl x) (by simp)
  have od : am_inI dp := hRe.okst (.inl dp) (by simp)
  have os : am_inI sp := hRe.okst (.inl sp) (by simp)
  have hloc : ((st.map (am_cv ad)).map fun v => v.category).sum + (nativeFrameWords "java/lang/System" "arraycopy" 5 + 11) ≤ R.locals := by rw [am_cats_cv, am_nfw]; omega
  have hml' := hml.trans (hRe.len.symm.trans hRe.LR.1.symm)
  rcases hcase with ⟨n0, n1, f, g, he0, he1, q1, q2, rfl⟩ | ⟨n0, n1, f, g, he0, he1, q1, q2, rfl⟩
  · obtain ⟨g1, g2, hw0⟩ := hRe.arrA he0 (by decide)
    obtain ⟨g3, g4, hw1⟩ := hRe.arrA he1 (by decide)
    have hk0 := hRe.okE p0
    rw [he0] at hk0
    have hk1 := hRe.okE a
    rw [he1] at hk1
    refine va_copyi hx hb hml' hown (hts _ (am_wd_mem h1)) (hts _ (am_wd_mem h2)) (hts _ (am_wd_mem h3)) (hts _ (am_wd_mem h4)) hK hRe.1 hRe.2.1 hRe.S (p0 - 1) (a - 1) 0 0 hw0 hw1 rfl rfl rfl (am_nn os p1) (am_nn od p2) (am_nn ox p3) (by rw [am_clamp os, am_clamp ox]; omega) (by rw [am_clamp od, am_clamp ox]; omega) (fun _ _ => rfl) hf hloc hdec (fun H1 locs1 hP hD hS => ?_)
    rw [am_clamp os, am_clamp od, am_clamp ox, ← am_cpy_cv (g0 := Int32.ofInt) (f := f) (g := g)] at hP hD
    refine K (pc + 3) ad lsC H1 locs1 hnx hck (hRe.up g3 g4 (e := .inl (0, n1, .inl (va_cpy f g sp.toNat dp.toNat x.toNat))) ⟨hk1.1, fun j => ?_, Or.inl rfl⟩ (fun w hw => by simp [hw]) hP hD hS)
    unfold va_cpy
    split
    · exact hk0.2.1 _
    · exact hk1.2.1 _
  · obtain ⟨g1, g2, hw0⟩ := hRe.arrA he0 (by decide)
    obtain ⟨g3, g4, hw1⟩ := hRe.arrA he1 (by decide)
    have hk0 := hRe.okE p0
    rw [he0] at hk0
    have hk1 := hRe.okE a
    rw [he1] at hk1
    refine va_copyl hx hb hml' hown (hts _ (am_wd_mem h1)) (hts _ (am_wd_mem h2)) (hts _ (am_wd_mem h3)) (hts _ (am_wd_mem h4)) hK hRe.1 hRe.2.1 hRe.S (p0 - 1) (a - 1) 1 1 hw0 hw1 rfl rfl rfl (am_nn os p1) (am_nn od p2) (am_nn ox p3) (by rw [am_clamp os, am_clamp ox]; omega) (by rw [am_clamp od, am_clamp ox]; omega) (fun _ _ => rfl) hf hloc hdec (fun H1 locs1 hP hD hS => ?_)
    rw [am_clamp os, am_clamp od, am_clamp ox, ← am_cpy_cv (g0 := Int64.ofInt) (f := f) (g := g)] at hP hD
    refine K (pc + 3) ad lsC H1 locs1 hnx hck (hRe.up g3 g4 (e := .inl (1, n1, .inr (.inl (va_cpy f g sp.toNat dp.toNat x.toNat)))) ⟨hk1.1, fun j => ?_, rfl⟩ (fun w hw => by simp [hw]) hP hD hS)
    unfold va_cpy
    split
    · exact hk0.2.1 _
    · exact hk1.2.1 _
end AMN
