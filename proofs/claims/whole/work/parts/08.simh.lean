/-! the heap's instructions (by wip/whole/simh.py) -/
def am_lx : List (List Nat) := [[1064, 1066, 1068], [2015, 2017, 2019], [1086, 1088, 1090, 1092], [2031, 2033, 2035], [1107, 1109, 1111, 1113], [1150, 1152, 1154, 1156, 1158, 1160, 1162, 1164, 1166, 1168, 1170, 1172, 1174, 1176, 1178, 1180, 1182], [1196, 1198, 1200], [1039, 1041], [1221, 1223, 1225, 1227, 1229, 1231, 1233, 1235, 1237, 1239, 2001, 2003], [2055, 2057, 2059, 2061, 2063, 2065, 2067, 2069, 2071, 2073, 2075, 2077, 2079, 2081, 2083, 2085], [5003, 5005, 5007, 5009, 5011, 5013, 5015, 5017, 5019, 5021, 5023, 5025, 5027, 5029, 5031, 5033, 5035, 5037, 5039, 5041, 5043, 5045, 5047, 5049, 5051, 5053, 5055, 5057, 5059, 5061, 5063, 5065, 5067, 5069, 5071, 5073, 5075, 5077, 5079, 5081, 5083, 5085, 5087, 5089, 5091, 5093, 5095, 5097]]
theorem am_lx_ok : (List.range 11).all (fun ci => (List.range (am_Nf ci)).all (fun k => am_wd ((am_lx.getD ci []).getD k 0) (u_lay (am_Cn ci) (am_T ci) k))) = true := by decide +kernel
theorem am_in {ci : Nat} (h : ci < 11) : ∀ w ∈ u_ws (am_Cn ci) (am_T ci) (am_Nf ci), w ∈ am_tb := by
  intro w hw
  obtain ⟨k, hk, rfl⟩ := List.mem_map.mp hw
  have h1 := List.all_eq_true.mp am_lx_ok ci (List.mem_range.mpr h)
  exact am_wd_mem (List.all_eq_true.mp h1 k hk)
theorem am_cl_at : ∀ {ci : Nat}, ci < 11 → am_cl[ci]? = some (am_Cn ci, am_T ci, am_Nf ci)
  | 0, _ => rfl
  | 1, _ => rfl
  | 2, _ => rfl
  | 3, _ => rfl
  | 4, _ => rfl
  | 5, _ => rfl
  | 6, _ => rfl
  | 7, _ => rfl
  | 8, _ => rfl
  | 9, _ => rfl
  | 10, _ => rfl
  | n + 11, h => absurd h (by omega)
def am_fty (ci k : Nat) : FieldType := (parseFieldDescriptor (am_T ci k).2.2.1).getD .int
theorem am_fty_ok : (List.range 11).all (fun ci => (List.range (am_Nf ci)).all (fun k => decide (parseFieldDescriptor (am_T ci k).2.2.1 = some (am_fty ci k)))) = true := by decide +kernel
theorem am_ftyp {ci : Nat} (h : ci < 11) : ∀ k, k < am_Nf ci → parseFieldDescriptor (am_T ci k).2.2.1 = some (am_fty ci k) := by
  intro k hk
  have h1 := List.all_eq_true.mp am_fty_ok ci (List.mem_range.mpr h)
  exact of_decide_eq_true (List.all_eq_true.mp h1 k (List.mem_range.mpr hk))
theorem am_nm_ok : (List.range 11).all (fun ci => (List.range (am_Nf ci)).all (fun a => (List.range (am_Nf ci)).all (fun b => a == b || !((am_T ci a).2.1 == (am_T ci b).2.1)))) = true := by decide +kernel
theorem am_nm {ci : Nat} (h : ci < 11) : ∀ a, a < am_Nf ci → ∀ b, b < am_Nf ci → a ≠ b → (am_T ci a).2.1 ≠ (am_T ci b).2.1 := by
  intro a ha b hb hab
  have h1 := List.all_eq_true.mp (List.all_eq_true.mp (List.all_eq_true.mp am_nm_ok ci (List.mem_range.mpr h)) a (List.mem_range.mpr ha)) b (List.mem_range.mpr hb)
  rcases Bool.or_eq_true_iff.mp h1 with h2 | h2
  · exact absurd (beq_iff_eq.mp h2) hab
  · intro e
    rw [e] at h2
    simp at h2
-- what an access tells of the cell
theorem am_gI_sp {h : am_H} {a ci k : Nat} {x : Int} (hg : am_gI h a ci k = some x) : ∃ fs, h.2 a = .inr (ci, fs) ∧ fs[k]? = some (.inl x) := by
  unfold am_gI at hg
  split at hg
  next c fs he =>
    split at hg
    next hc =>
      subst hc
      split at hg
      next y hy => cases hg; exact ⟨fs, he, hy⟩
      next => cases hg
    next => cases hg
  next => cases hg
theorem am_gR_sp {h : am_H} {a ci k q : Nat} (hg : am_gR h a ci k = some q) : ∃ fs, h.2 a = .inr (ci, fs) ∧ fs[k]? = some (.inr (.inr (some q))) := by
  unfold am_gR at hg
  split at hg
  next c fs he =>
    split at hg
    next hc =>
      subst hc
      split at hg
      next y hy => cases hg; exact ⟨fs, he, hy⟩
      next => cases hg
    next => cases hg
  next => cases hg
theorem am_p_sp {h h' : am_H} {a ci k : Nat} {v : am_V} (hg : am_p h a ci k v = some h') : ∃ fs, h.2 a = .inr (ci, fs) ∧ k < fs.length ∧ h' = am_up h a (.inr (ci, fs.set k v)) := by
  unfold am_p at hg
  split at hg
  next c fs he =>
    split at hg
    next hc => obtain ⟨rfl, hk⟩ := hc; cases hg; exact ⟨fs, he, hk, rfl⟩
    next => cases hg
  next => cases hg
theorem am_lI_sp {h : am_H} {a : Nat} {i x : Int} (hg : am_lI h a i = some x) : ∃ t n f, h.2 a = .inl (t, n, .inl f) ∧ (t = 0 ∨ (t = 5 ∧ a = 0)) ∧ 0 ≤ i ∧ i < n ∧ x = f i.toNat := by
  unfold am_lI at hg
  split at hg
  next t n f he =>
    split at hg
    next hc => cases hg; exact ⟨t, n, f, he, hc.1, hc.2.1, hc.2.2, rfl⟩
    next => cases hg
  next => cases hg
theorem am_lB_sp {h : am_H} {a : Nat} {i x : Int} (hg : am_lB h a i = some x) : ∃ t n f, h.2 a = .inl (t, n, .inl f) ∧ (t = 2 ∨ t = 3) ∧ 0 ≤ i ∧ i < n ∧ x = f i.toNat := by
  unfold am_lB at hg
  split at hg
  next t n f he =>
    split at hg
    next hc => cases hg; exact ⟨t, n, f, he, hc.1, hc.2.1, hc.2.2, rfl⟩
    next => cases hg
  next => cases hg
theorem am_lL_sp {h : am_H} {a : Nat} {i x : Int} (hg : am_lL h a i = some x) : ∃ n f, h.2 a = .inl (1, n, .inr (.inl f)) ∧ 0 ≤ i ∧ i < n ∧ x = f i.toNat := by
  unfold am_lL at hg
  split at hg
  next t n f he =>
    split at hg
    next hc => obtain ⟨rfl, h1, h2⟩ := hc; cases hg; exact ⟨n, f, he, h1, h2, rfl⟩
    next => cases hg
  next => cases hg
theorem am_lR_sp {h : am_H} {a : Nat} {i : Int} {q : Nat} (hg : am_lR h a i = some q) : ∃ n f, h.2 a = .inl (4, n, .inr (.inr f)) ∧ 0 ≤ i ∧ i < n ∧ f i.toNat = some q := by
  unfold am_lR at hg
  split at hg
  next t n f he =>
    split at hg
    next hc => obtain ⟨rfl, h1, h2⟩ := hc; exact ⟨n, f, he, h1, h2, hg⟩
    next => cases hg
  next => cases hg
theorem am_sI_sp {h h' : am_H} {a : Nat} {i x : Int} (hg : am_sI h a i x = some h') : ∃ n f, h.2 a = .inl (0, n, .inl f) ∧ 0 ≤ i ∧ i < n ∧ h' = am_up h a (.inl (0, n, .inl (am_fu f i.toNat x))) := by
  unfold am_sI at hg
  split at hg
  next t n f he =>
    split at hg
    next hc => obtain ⟨rfl, h1, h2⟩ := hc; cases hg; exact ⟨n, f, he, h1, h2, rfl⟩
    next => cases hg
  next => cases hg
theorem am_sB_sp {h h' : am_H} {a : Nat} {i x : Int} (hg : am_sB h a i x = some h') : ∃ t n f, h.2 a = .inl (t, n, .inl f) ∧ ((t = 2 ∧ -128 ≤ x ∧ x < 128) ∨ (t = 3 ∧ 0 ≤ x ∧ x < 2)) ∧ 0 ≤ i ∧ i < n ∧ h' = am_up h a (.inl (t, n, .inl (am_fu f i.toNat x))) := by
  unfold am_sB at hg
  split at hg
  next t n f he =>
    split at hg
    next hc => obtain ⟨h0, h1, h2⟩ := hc; cases hg; exact ⟨t, n, f, he, h0, h1, h2, rfl⟩
    next => cases hg
  next => cases hg
theorem am_sL_sp {h h' : am_H} {a : Nat} {i x : Int} (hg : am_sL h a i x = some h') : ∃ n f, h.2 a = .inl (1, n, .inr (.inl f)) ∧ 0 ≤ i ∧ i < n ∧ h' = am_up h a (.inl (1, n, .inr (.inl (am_fu f i.toNat x)))) := by
  unfold am_sL at hg
  split at hg
  next t n f he =>
    split at hg
    next hc => obtain ⟨rfl, h1, h2⟩ := hc; cases hg; exact ⟨n, f, he, h1, h2, rfl⟩
    next => cases hg
  next => cases hg
theorem am_sR_sp {h h' : am_H} {a : Nat} {i : Int} {q : Nat} (hg : am_sR h a i q = some h') : ∃ n f fs, h.2 a = .inl (4, n, .inr (.inr f)) ∧ h.2 q = .inr (0, fs) ∧ 0 ≤ i ∧ i < n ∧ h' = am_up h a (.inl (4, n, .inr (.inr (am_fu f i.toNat (some q))))) := by
  unfold am_sR at hg
  split at hg
  next t n f c fs he hq =>
    split at hg
    next hc => obtain ⟨rfl, rfl, h1, h2⟩ := hc; cases hg; exact ⟨n, f, fs, he, hq, h1, h2, rfl⟩
    next => cases hg
  next => cases hg
theorem am_in_lt {i : Int} {n : Nat} (h0 : 0 ≤ i) (h1 : i < n) (hn : n < 2 ^ 31) : am_inI i := by
  unfold am_inI; omega
theorem am_ftk_ok {desc : String} {t : Nat} (h : am_ftk desc t = true) {ad : Nat → Nat} {v : am_V} (hv : (∃ x, v = .inl x ∧ (t = 0 ∨ (t = 1 ∧ 0 ≤ x ∧ x < 2))) ∨ (∃ q, v = .inr (.inr (some q)) ∧ t = 2)) : ∃ ty, parseFieldDescriptor desc = some ty ∧ narrow ty (am_cv ad v) = am_cv ad v ∧ fits ty (am_cv ad v) = true := by
  unfold am_ftk at h
  split at h
  next hp =>
    rcases hv with ⟨x, rfl, h1⟩ | ⟨q, rfl, h1⟩
    · exact ⟨_, hp, rfl, rfl⟩
    · cases h1
  next hp =>
    rcases hv with ⟨x, rfl, h1⟩ | ⟨q, rfl, h1⟩
    · rcases h1 with h1 | ⟨-, h1, h2⟩
      · cases h1
      · rcases (show x = 0 ∨ x = 1 by omega) with rfl | rfl
        · exact ⟨_, hp, by show Value.int _ = _; exact congrArg Value.int (by decide +kernel), by show (Int32.ofInt 0 == 0 || Int32.ofInt 0 == 1) = true; decide +kernel⟩
        · exact ⟨_, hp, by show Value.int _ = _; exact congrArg Value.int (by decide +kernel), by show (Int32.ofInt 1 == 0 || Int32.ofInt 1 == 1) = true; decide +kernel⟩
    · cases h1
  next hp =>
    rcases hv with ⟨x, rfl, h1⟩ | ⟨q, rfl, h1⟩
    · rcases h1 with h1 | h1
      · cases h1
      · cases h1.1
    · exact ⟨_, hp, rfl, rfl⟩
  next hp =>
    rcases hv with ⟨x, rfl, h1⟩ | ⟨q, rfl, h1⟩
    · rcases h1 with h1 | h1
      · cases h1
      · cases h1.1
    · exact ⟨_, hp, rfl, rfl⟩
  next => cases h
theorem am_narB {x : Int} (h1 : -128 ≤ x) (h2 : x < 128) : vp_nar .byte (Int32.ofInt x) = Int32.ofInt x := by
  show (Int32.ofInt x).toInt8.toInt32 = _
  apply Int32.toInt_inj.mp
  rw [Int8.toInt_toInt32, Int32.toInt_toInt8, am_oI_to ⟨by omega, by omega⟩]
  exact Int.bmod_eq_of_le (by omega) (by omega)
theorem am_narZ {x : Int} (h1 : 0 ≤ x) (h2 : x < 2) : vp_nar .boolean (Int32.ofInt x) = Int32.ofInt x := by
  rcases (show x = 0 ∨ x = 1 by omega) with rfl | rfl
  · decide +kernel
  · decide +kernel
theorem am_ln_sp {h : am_H} {a : Nat} {x : Int} (hg : am_ln h a = some x) : ∃ t n f, h.2 a = .inl (t, n, f) ∧ x = (n : Int) ∧ (t = 5 → a = 0) := by
  unfold am_ln at hg
  split at hg
  next t n f he =>
    split at hg
    next hc => cases hg; exact ⟨t, n, f, he, rfl, hc⟩
    next => cases hg
  next => cases hg
theorem am_okE_len {n t N : Nat} {f : am_C} (h : am_okE n (.inl (t, N, f))) : N < 2 ^ 31 := by
  rcases f with f | f | f <;> exact h.1
theorem am_tys_at {tA : Nat → ClassId} {n t N : Nat} {f : am_C} (h : am_okE n (.inl (t, N, f))) (h5 : t ≠ 5) : ∃ (j : Nat) (ty : FieldType), (am_tys tA)[j]? = some (tA t, ty) := by
  rcases f with f | f | f
  · rcases h.2.2 with rfl | rfl | rfl | rfl
    · exact ⟨0, _, rfl⟩
    · exact ⟨2, _, rfl⟩
    · exact ⟨3, _, rfl⟩
    · exact absurd rfl h5
  · obtain rfl := h.2.2
    exact ⟨1, _, rfl⟩
  · obtain rfl := h.2.2
    exact ⟨4, _, rfl⟩
theorem am_cE_arr {tA : Nat → ClassId} {ad : Nat → Nat} {t N : Nat} {f : am_C} : ∃ x : vp_A, am_cE tA ad (.inl (t, N, f)) = .inl (tA t, x) ∧ x.1 = N := by
  rcases f with f | f | f <;> exact ⟨_, rfl, rfl⟩
section AMH
variable {p : Program} {l : Launch} {e : Env} {R : Room} {s : State} {m : MethodId} {args : Array Value} {below : List Frame} {meth : Method} {c : Code} {Q : State → Prop} {D : va_G} {tA : Nat → ClassId} {b B0 L : Nat} {xs : Nat → Int32} {a0 : Nat → Nat} {cE sE M : Nat}
variable {pc len k : Nat} {os : List Nat} {z x y : Int} {es : List am_I} {ls st : List am_V} {h : am_H}
variable {ad : Nat → Nat} {H : Heap} {locs : List Loc} {lsC : Array Slot} {n : Nat}
theorem am_Re.objA (r : am_Re s D tA b B0 L xs a0 n cE sE ad h H locs ls lsC st) {a ci k : Nat} {fs : List am_V} {v : am_V} (he : h.2 a = .inr (ci, fs)) (hk : fs[k]? = some v) : a ≠ 0 ∧ a < h.1.1 ∧ (am_ws tA ad h)[a - 1]? = some (ad a, .inr (ci, fs.map (am_cv ad))) := by
  obtain ⟨h1, h2⟩ := r.inA (a := a) (fun n c q => by rw [he] at q; cases q) (fun q => by rw [he] at q; cases q; simp at hk)
  exact ⟨h1, h2, by rw [am_ws_at h1 h2, he]; rfl⟩
theorem am_Re.arrA (r : am_Re s D tA b B0 L xs a0 n cE sE ad h H locs ls lsC st) {a t N : Nat} {f : am_C} (he : h.2 a = .inl (t, N, f)) (ht : t ≠ 5) : a ≠ 0 ∧ a < h.1.1 ∧ (am_ws tA ad h)[a - 1]? = some (ad a, am_cE tA ad (.inl (t, N, f))) := by
  obtain ⟨h1, h2⟩ := r.inA (a := a) (fun n c q => by rw [he] at q; cases q; exact ht rfl) (fun q => by rw [he] at q; cases q)
  exact ⟨h1, h2, by rw [am_ws_at h1 h2, he]⟩
theorem am_s_getf (C : am_Cx p s m args meth c D tA b B0 L xs M) {idx ci t w nest a : Nat} {fs : List am_V} {v : am_V} (he : h.2 a = .inr (ci, fs)) (hk : fs[k]? = some v) (K : am_Gl p l e R s m args below meth c Q D tA b B0 L xs a0 cE sE M (es) (ls) (v :: st) (h)) : am_Gl p l e R s m args below meth c Q D tA b B0 L xs a0 cE sE M ((pc, .getfield idx, len, [ci, k, t, w, nest], z) :: es) (ls) (.inr (.inr (some a)) :: st) (h) := by
  intro pc0 ad lsC H locs hpc hchk hRe
  have hpc := hpc _ rfl
  dsimp only at hpc
  subst hpc
  obtain ⟨hdec, hlk, -, hnx, hck⟩ := am_chk_cons hchk rfl
  simp only [am_okL, am_okF, Bool.and_eq_true, beq_iff_eq, decide_eq_true_eq] at hlk
  obtain ⟨⟨⟨⟨rfl, hci⟩, hkN⟩, hft⟩, hw⟩ := hlk
  obtain ⟨hx, hb, hr, hml, hown, hts, hlocks, hname, hK, hX, hb0, hB0, hL⟩ := id C
  have hnx := hnx.resolve_left (by simp [am_uncond])
  obtain ⟨h1, h2, hwa⟩ := hRe.objA he hk
  have hkv : (fs.map (am_cv ad))[k]? = some (am_cv ad v) := by rw [List.getElem?_map, hk]; rfl
  have hok : am_okV h.1.1 v := by have := hRe.okE a; rw [he] at this; exact this v (List.mem_of_getElem? hk)
  have K' := K (pc + 3) ad lsC H locs hnx hck (hRe.push hok (fun w hw => List.mem_cons_of_mem _ hw))
  by_cases hn : nest = 0
  · rw [if_pos hn] at hw
    exact va_get hx hb hts (am_in hci) hown hK hRe.1 (a - 1) hwa (am_cl_at hci) k hkN (hts _ (am_wd_mem hw)) (fun _ q => q) hkv hdec K'
  · rw [if_neg hn] at hw
    obtain ⟨host, hw⟩ := am_fdN_mem hw
    exact va_getN hx hb hts (am_in hci) hown hK hRe.1 (a - 1) hwa (am_cl_at hci) k hkN (hts _ hw) (fun _ q => q) hkv hdec K'
theorem am_s_putf (C : am_Cx p s m args meth c D tA b B0 L xs M) {idx ci t w nest a : Nat} {h' : am_H} {v : am_V} (hv : (∃ x, v = .inl x ∧ (t = 0 ∨ (t = 1 ∧ 0 ≤ x ∧ x < 2))) ∨ (∃ q, v = .inr (.inr (some q)) ∧ t = 2)) (hp : am_p h a ci k v = some h') (K : am_Gl p l e R s m args below meth c Q D tA b B0 L xs a0 cE sE M (es) (ls) (st) (h')) : am_Gl p l e R s m args below meth c Q D tA b B0 L xs a0 cE sE M ((pc, .putfield idx, len, [ci, k, t, w, nest], z) :: es) (ls) (v :: .inr (.inr (some a)) :: st) (h) := by
  intro pc0 ad lsC H locs hpc hchk hRe
  have hpc := hpc _ rfl
  dsimp only at hpc
  subst hpc
  obtain ⟨hdec, hlk, -, hnx, hck⟩ := am_chk_cons hchk rfl
  simp only [am_okL, am_okF, am_okP, Bool.and_eq_true, beq_iff_eq, decide_eq_true_eq, Bool.or_eq_true, Bool.not_eq_true'] at hlk
  obtain ⟨⟨⟨⟨⟨rfl, hci⟩, hkN⟩, hft⟩, hw⟩, hfin⟩ := hlk
  obtain ⟨hx, hb, hr, hml, hown, hts, hlocks, hname, hK, hX, hb0, hB0, hL⟩ := id C
  have hnx := hnx.resolve_left (by simp [am_uncond])
  obtain ⟨fs, he, hkl, rfl⟩ := am_p_sp hp
  obtain ⟨h1, h2, hwa⟩ := hRe.objA he (List.getElem?_eq_getElem hkl)
  obtain ⟨ty, hd, hnr, hfit⟩ := am_ftk_ok hft (ad := ad) hv
  have hok : am_okE h.1.1 (.inr (ci, fs.set k v)) := by
    intro u hu
    rcases List.mem_or_eq_of_mem_set hu with g | g
    · have := hRe.okE a
      rw [he] at this
      exact this u g
    · rw [g]; exact hRe.okst _ List.mem_cons_self
  have hse : (am_ws tA ad h).set (a - 1) (ad a, .inr (ci, (fs.map (am_cv ad)).set k (am_cv ad v))) = (am_ws tA ad h).set (a - 1) (ad a, am_cE tA ad (.inr (ci, fs.set k v))) := by
    simp only [am_cE, List.map_set]
  have kk : ∀ (H1 : Heap) (locs1 : List Loc), va_P D am_cl ((am_ws tA ad h).set (a - 1) (ad a, .inr (ci, (fs.map (am_cv ad)).set k (am_cv ad v)))) H1 → va_D (fun q : Nat => B0 ≤ q) ((am_ws tA ad h).set (a - 1) (ad a, .inr (ci, (fs.map (am_cv ad)).set k (am_cv ad v)))) → va_S (fun q : Nat => B0 ≤ q) s.heap H1 locs1 → W p l e R s m args below meth c H1 locs1 (h.1.1 - cE) (h.1.2 - sE) Q (F0 m (pc + 3) lsC (st.map (am_cv ad))) := by
    intro H1 locs1 hP hD hS
    rw [hse] at hP hD
    exact K (pc + 3) ad lsC H1 locs1 hnx hck (hRe.up h1 h2 hok (fun w hw => List.mem_cons_of_mem _ (List.mem_cons_of_mem _ hw)) hP hD hS)
  by_cases hfi : (am_T ci k).2.2.2 = false
  · by_cases hn : nest = 0
    · rw [if_pos hn] at hw
      exact va_put hx hb hts (am_in hci) (am_fty ci) (am_ftyp hci) (am_nm hci) hown hK hRe.1 hRe.2.1 hRe.S (a - 1) hwa (am_cl_at hci) k hkN (hts _ (am_wd_mem hw)) (fun _ q => q) hfi hd hnr hfit (by rw [List.length_map]; exact hkl) hdec kk
    · rw [if_neg hn] at hw
      obtain ⟨host, hw⟩ := am_fdN_mem hw
      exact va_putN hx hb hts (am_in hci) (am_fty ci) (am_ftyp hci) (am_nm hci) hown hK hRe.1 hRe.2.1 hRe.S (a - 1) hwa (am_cl_at hci) k hkN (hts _ hw) (fun _ q => q) hfi hd hnr hfit (by rw [List.length_map]; exact hkl) hdec kk
  · obtain ⟨⟨hin, hdecl⟩, hn⟩ := hfin.resolve_left hfi
    rw [if_pos hn] at hw
    exact va_putF hx hb hts (am_in hci) (am_fty ci) (am_ftyp hci) (am_nm hci) hown hK hRe.1 hRe.2.1 hRe.S (a - 1) hwa (am_cl_at hci) k hkN (hts _ (am_wd_mem hw)) (fun _ q => q) (by simpa using hfi) (hname hin) hdecl hd hnr hfit (by rw [List.length_map]; exact hkl) hdec kk
theorem am_s_iald (C : am_Cx p s m args meth c D tA b B0 L xs M) {a : Nat} {i : Int} (hl : am_lI h a i = some x) (K : am_Gl p l e R s m args below meth c Q D tA b B0 L xs a0 cE sE M (es) (ls) (.inl x :: st) (h)) : am_Gl p l e R s m args below meth c Q D tA b B0 L xs a0 cE sE M ((pc, .iaload, len, os, z) :: es) (ls) (.inl i :: .inr (.inr (some a)) :: st) (h) := by
  intro pc0 ad lsC H locs hpc hchk hRe
  have hpc := hpc _ rfl
  dsimp only at hpc
  subst hpc
  obtain ⟨hdec, hlk, -, hnx, hck⟩ := am_chk_cons hchk rfl
  obtain rfl : len = 1 := by simpa [am_okL] using hlk
  obtain ⟨hx, hb, hr, hml, hown, hts, hlocks, hname, hK, hX, hb0, hB0, hL⟩ := id C
  have hnx := hnx.resolve_left (by simp [am_uncond])
  obtain ⟨t, N, f, he, ht, h0, h1, rfl⟩ := am_lI_sp hl
  have hokE := hRe.okE a
  rw [he] at hokE
  have hi := am_in_lt h0 h1 hokE.1
  have K' := K (pc + 1) ad lsC H locs hnx hck (hRe.push (v := .inl (f i.toNat)) (hokE.2.1 _) (fun w hw => List.mem_cons_of_mem _ (List.mem_cons_of_mem _ hw)))
  rcases ht with rfl | ⟨rfl, ha⟩
  · obtain ⟨g1, g2, hwa⟩ := hRe.arrA he (by decide)
    refine va_iald hx hb hK hRe.1 (a - 1) 0 hwa rfl (am_vin hi h0 h1) hdec ?_
    rw [am_clamp hi]
    exact K'
  · subst ha
    rw [hRe.2.2.2.1] at he
    cases he
    obtain ⟨scr, q1, q2, q3, q4, q5⟩ := hX
    have hlt : i.toNat < L := by omega
    have hHb : H[b]? = some scr := by rw [hRe.S.2.1 b (by omega) (by omega)]; exact q1
    show W p l e R s m args below meth c H locs _ _ Q (F0 m pc lsC (.int (Int32.ofInt i) :: .ref (ad 0) :: st.map (am_cv ad)))
    rw [hRe.2.2.1.1]
    refine W.iald (v := .int (xs i.toNat)) hx hb hHb q2 q3 (by rw [q4]; exact am_vin hi h0 h1) (by rw [am_clamp hi]; exact q5 _ hlt) rfl rfl hdec ?_
    have e : Int32.ofInt (xs i.toNat).toInt = xs i.toNat := Int32.ofInt_toInt _
    rw [← e]
    exact K'
theorem am_s_bald (C : am_Cx p s m args meth c D tA b B0 L xs M) {a : Nat} {i : Int} (hl : am_lB h a i = some x) (K : am_Gl p l e R s m args below meth c Q D tA b B0 L xs a0 cE sE M (es) (ls) (.inl x :: st) (h)) : am_Gl p l e R s m args below meth c Q D tA b B0 L xs a0 cE sE M ((pc, .baload, len, os, z) :: es) (ls) (.inl i :: .inr (.inr (some a)) :: st) (h) := by
  intro pc0 ad lsC H locs hpc hchk hRe
  have hpc := hpc _ rfl
  dsimp only at hpc
  subst hpc
  obtain ⟨hdec, hlk, -, hnx, hck⟩ := am_chk_cons hchk rfl
  obtain rfl : len = 1 := by simpa [am_okL] using hlk
  obtain ⟨hx, hb, hr, hml, hown, hts, hlocks, hname, hK, hX, hb0, hB0, hL⟩ := id C
  have hnx := hnx.resolve_left (by simp [am_uncond])
  obtain ⟨t, N, f, he, ht, h0, h1, rfl⟩ := am_lB_sp hl
  have hokE := hRe.okE a
  rw [he] at hokE
  have hi := am_in_lt h0 h1 hokE.1
  have K' := K (pc + 1) ad lsC H locs hnx hck (hRe.push (v := .inl (f i.toNat)) (hokE.2.1 _) (fun w hw => List.mem_cons_of_mem _ (List.mem_cons_of_mem _ hw)))
  rcases ht with rfl | rfl
  · obtain ⟨g1, g2, hwa⟩ := hRe.arrA he (by decide)
    refine va_bald hx hb hK hRe.1 (a - 1) 2 hwa rfl (am_vin hi h0 h1) hdec ?_
    rw [am_clamp hi]
    exact K'
  · obtain ⟨g1, g2, hwa⟩ := hRe.arrA he (by decide)
    refine va_zald hx hb hK hRe.1 (a - 1) 3 hwa rfl (am_vin hi h0 h1) hdec ?_
    rw [am_clamp hi]
    exact K'
theorem am_s_lald (C : am_Cx p s m args meth c D tA b B0 L xs M) {a : Nat} {i : Int} (hl : am_lL h a i = some x) (K : am_Gl p l e R s m args below meth c Q D tA b B0 L xs a0 cE sE M (es) (ls) (.inr (.inl x) :: st) (h)) : am_Gl p l e R s m args below meth c Q D tA b B0 L xs a0 cE sE M ((pc, .laload, len, os, z) :: es) (ls) (.inl i :: .inr (.inr (some a)) :: st) (h) := by
  intro pc0 ad lsC H locs hpc hchk hRe
  have hpc := hpc _ rfl
  dsimp only at hpc
  subst hpc
  obtain ⟨hdec, hlk, -, hnx, hck⟩ := am_chk_cons hchk rfl
  obtain rfl : len = 1 := by simpa [am_okL] using hlk
  obtain ⟨hx, hb, hr, hml, hown, hts, hlocks, hname, hK, hX, hb0, hB0, hL⟩ := id C
  have hnx := hnx.resolve_left (by simp [am_uncond])
  obtain ⟨N, f, he, h0, h1, rfl⟩ := am_lL_sp hl
  have hokE := hRe.okE a
  rw [he] at hokE
  have hi := am_in_lt h0 h1 hokE.1
  have K' := K (pc + 1) ad lsC H locs hnx hck (hRe.push (v := .inr (.inl (f i.toNat))) (hokE.2.1 _) (fun w hw => List.mem_cons_of_mem _ (List.mem_cons_of_mem _ hw)))
  obtain ⟨g1, g2, hwa⟩ := hRe.arrA he (by decide)
  refine va_lald hx hb hK hRe.1 (a - 1) 1 hwa rfl (am_vin hi h0 h1) hdec ?_
  rw [am_clamp hi]
  exact K'
theorem am_s_aald (C : am_Cx p s m args meth c D tA b B0 L xs M) {a : Nat} {i : Int} {q : Nat} (hl : am_lR h a i = some q) (K : am_Gl p l e R s m args below meth c Q D tA b B0 L xs a0 cE sE M (es) (ls) (.inr (.inr (some q)) :: st) (h)) : am_Gl p l e R s m args below meth c Q D tA b B0 L xs a0 cE sE M ((pc, .aaload, len, os, z) :: es) (ls) (.inl i :: .inr (.inr (some a)) :: st) (h) := by
  intro pc0 ad lsC H locs hpc hchk hRe
  have hpc := hpc _ rfl
  dsimp only at hpc
  subst hpc
  obtain ⟨hdec, hlk, -, hnx, hck⟩ := am_chk_cons hchk rfl
  obtain rfl : len = 1 := by simpa [am_okL] using hlk
  obtain ⟨hx, hb, hr, hml, hown, hts, hlocks, hname, hK, hX, hb0, hB0, hL⟩ := id C
  have hnx := hnx.resolve_left (by simp [am_uncond])
  obtain ⟨N, f, he, h0, h1, hfq⟩ := am_lR_sp hl
  have hokE := hRe.okE a
  rw [he] at hokE
  have hi := am_in_lt h0 h1 hokE.1
  have K' := K (pc + 1) ad lsC H locs hnx hck (hRe.push (v := .inr (.inr (some q))) (hokE.2.1 _ _ hfq) (fun w hw => List.mem_cons_of_mem _ (List.mem_cons_of_mem _ hw)))
  obtain ⟨g1, g2, hwa⟩ := hRe.arrA he (by decide)
  refine va_aldq hx hb hK hRe.1 (a - 1) 4 hwa rfl (am_vin hi h0 h1) hdec ?_
  simp only [am_clamp hi, hfq]
  exact K'
theorem am_s_iast (C : am_Cx p s m args meth c D tA b B0 L xs M) {a : Nat} {i : Int} {h' : am_H} (hl : am_sI h a i x = some h') (K : am_Gl p l e R s m args below meth c Q D tA b B0 L xs a0 cE sE M (es) (ls) (st) (h')) : am_Gl p l e R s m args below meth c Q D tA b B0 L xs a0 cE sE M ((pc, .iastore, len, os, z) :: es) (ls) (.inl x :: .inl i :: .inr (.inr (some a)) :: st) (h) := by
  intro pc0 ad lsC H locs hpc hchk hRe
  have hpc := hpc _ rfl
  dsimp only at hpc
  subst hpc
  obtain ⟨hdec, hlk, -, hnx, hck⟩ := am_chk_cons hchk rfl
  obtain rfl : len = 1 := by simpa [am_okL] using hlk
  obtain ⟨hx, hb, hr, hml, hown, hts, hlocks, hname, hK, hX, hb0, hB0, hL⟩ := id C
  have hnx := hnx.resolve_left (by simp [am_uncond])
  obtain ⟨N, f, he, h0, h1, rfl⟩ := am_sI_sp hl
  have hokE := hRe.okE a
  rw [he] at hokE
  have hi := am_in_lt h0 h1 hokE.1
  have ox := hRe.okst _ List.mem_cons_self
  obtain ⟨g1, g2, hwa⟩ := hRe.arrA he (by decide)
  refine va_iast hx hb hK hRe.1 hRe.2.1 hRe.S (a - 1) 0 hwa rfl (am_vin hi h0 h1) hdec (fun H1 locs1 hP hD hS => ?_)
  refine K (pc + 1) ad lsC H1 locs1 hnx hck (hRe.up g1 g2 (e := .inl (0, N, .inl (am_fu f i.toNat x))) (⟨hokE.1, fun j => by unfold am_fu; split; exact ox; exact hokE.2.1 j, Or.inl rfl⟩) (fun w hw => List.mem_cons_of_mem _ (List.mem_cons_of_mem _ (List.mem_cons_of_mem _ hw))) ?_ ?_ hS)
  · rw [am_clamp hi] at hP
    simp only [am_cE, am_fu_cv]
    exact hP
  · rw [am_clamp hi] at hD
    simp only [am_cE, am_fu_cv]
    exact hD
theorem am_s_bast (C : am_Cx p s m args meth c D tA b B0 L xs M) {a : Nat} {i : Int} {h' : am_H} (hl : am_sB h a i x = some h') (K : am_Gl p l e R s m args below meth c Q D tA b B0 L xs a0 cE sE M (es) (ls) (st) (h')) : am_Gl p l e R s m args below meth c Q D tA b B0 L xs a0 cE sE M ((pc, .bastore, len, os, z) :: es) (ls) (.inl x :: .inl i :: .inr (.inr (some a)) :: st) (h) := by
  intro pc0 ad lsC H locs hpc hchk hRe
  have hpc := hpc _ rfl
  dsimp only at hpc
  subst hpc
  obtain ⟨hdec, hlk, -, hnx, hck⟩ := am_chk_cons hchk rfl
  obtain rfl : len = 1 := by simpa [am_okL] using hlk
  obtain ⟨hx, hb, hr, hml, hown, hts, hlocks, hname, hK, hX, hb0, hB0, hL⟩ := id C
  have hnx := hnx.resolve_left (by simp [am_uncond])
  obtain ⟨t, N, f, he, ht, h0, h1, rfl⟩ := am_sB_sp hl
  have hokE := hRe.okE a
  rw [he] at hokE
  have hi := am_in_lt h0 h1 hokE.1
  have ox := hRe.okst _ List.mem_cons_self
  rcases ht with ⟨rfl, hx1, hx2⟩ | ⟨rfl, hx1, hx2⟩
  · obtain ⟨g1, g2, hwa⟩ := hRe.arrA he (by decide)
    refine va_bast hx hb hK hRe.1 hRe.2.1 hRe.S (a - 1) 2 hwa rfl (am_vin hi h0 h1) hdec (fun H1 locs1 hP hD hS => ?_)
    refine K (pc + 1) ad lsC H1 locs1 hnx hck (hRe.up g1 g2 (e := .inl (2, N, .inl (am_fu f i.toNat x))) (⟨hokE.1, fun j => by unfold am_fu; split; exact ox; exact hokE.2.1 j, Or.inr (Or.inl rfl)⟩) (fun w hw => List.mem_cons_of_mem _ (List.mem_cons_of_mem _ (List.mem_cons_of_mem _ hw))) ?_ ?_ hS)
    · rw [am_clamp hi, am_narB hx1 hx2] at hP
      simp only [am_cE, am_fu_cv]
      exact hP
    · rw [am_clamp hi, am_narB hx1 hx2] at hD
      simp only [am_cE, am_fu_cv]
      exact hD
  · obtain ⟨g1, g2, hwa⟩ := hRe.arrA he (by decide)
    refine va_zast hx hb hK hRe.1 hRe.2.1 hRe.S (a - 1) 3 hwa rfl (am_vin hi h0 h1) hdec (fun H1 locs1 hP hD hS => ?_)
    refine K (pc + 1) ad lsC H1 locs1 hnx hck (hRe.up g1 g2 (e := .inl (3, N, .inl (am_fu f i.toNat x))) (⟨hokE.1, fun j => by unfold am_fu; split; exact ox; exact hokE.2.1 j, Or.inr (Or.inr (Or.inl rfl))⟩) (fun w hw => List.mem_cons_of_mem _ (List.mem_cons_of_mem _ (List.mem_cons_of_mem _ hw))) ?_ ?_ hS)
    · rw [am_clamp hi, am_narZ hx1 hx2] at hP
      simp only [am_cE, am_fu_cv]
      exact hP
    · rw [am_clamp hi, am_narZ hx1 hx2] at hD
      simp only [am_cE, am_fu_cv]
      exact hD
theorem am_s_last (C : am_Cx p s m args meth c D tA b B0 L xs M) {a : Nat} {i : Int} {h' : am_H} (hl : am_sL h a i x = some h') (K : am_Gl p l e R s m args below meth c Q D tA b B0 L xs a0 cE sE M (es) (ls) (st) (h')) : am_Gl p l e R s m args below meth c Q D tA b B0 L xs a0 cE sE M ((pc, .lastore, len, os, z) :: es) (ls) (.inr (.inl x) :: .inl i :: .inr (.inr (some a)) :: st) (h) := by
  intro pc0 ad lsC H locs hpc hchk hRe
  have hpc := hpc _ rfl
  dsimp only at hpc
  subst hpc
  obtain ⟨hdec, hlk, -, hnx, hck⟩ := am_chk_cons hchk rfl
  obtain rfl : len = 1 := by simpa [am_okL] using hlk
  obtain ⟨hx, hb, hr, hml, hown, hts, hlocks, hname, hK, hX, hb0, hB0, hL⟩ := id C
  have hnx := hnx.resolve_left (by simp [am_uncond])
  obtain ⟨N, f, he, h0, h1, rfl⟩ := am_sL_sp hl
  have hokE := hRe.okE a
  rw [he] at hokE
  have hi := am_in_lt h0 h1 hokE.1
  have ox := hRe.okst _ List.mem_cons_self
  obtain ⟨g1, g2, hwa⟩ := hRe.arrA he (by decide)
  refine va_last hx hb hK hRe.1 hRe.2.1 hRe.S (a - 1) 1 hwa rfl (am_vin hi h0 h1) hdec (fun H1 locs1 hP hD hS => ?_)
  refine K (pc + 1) ad lsC H1 locs1 hnx hck (hRe.up g1 g2 (e := .inl (1, N, .inr (.inl (am_fu f i.toNat x)))) (⟨hokE.1, fun j => by unfold am_fu; split; exact ox; exact hokE.2.1 j, rfl⟩) (fun w hw => List.mem_cons_of_mem _ (List.mem_cons_of_mem _ (List.mem_cons_of_mem _ hw))) ?_ ?_ hS)
  · rw [am_clamp hi] at hP
    simp only [am_cE, am_fu_cvl]
    exact hP
  · rw [am_clamp hi] at hD
    simp only [am_cE, am_fu_cvl]
    exact hD
theorem am_s_aast (C : am_Cx p s m args meth c D tA b B0 L xs M) {a : Nat} {i : Int} {q : Nat} {h' : am_H} (hl : am_sR h a i q = some h') (K : am_Gl p l e R s m args below meth c Q D tA b B0 L xs a0 cE sE M (es) (ls) (st) (h')) : am_Gl p l e R s m args below meth c Q D tA b B0 L xs a0 cE sE M ((pc, .aastore, len, os, z) :: es) (ls) (.inr (.inr (some q)) :: .inl i :: .inr (.inr (some a)) :: st) (h) := by
  intro pc0 ad lsC H locs hpc hchk hRe
  have hpc := hpc _ rfl
  dsimp only at hpc
  subst hpc
  obtain ⟨hdec, hlk, -, hnx, hck⟩ := am_chk_cons hchk rfl
  obtain rfl : len = 1 := by simpa [am_okL] using hlk
  obtain ⟨hx, hb, hr, hml, hown, hts, hlocks, hname, hK, hX, hb0, hB0, hL⟩ := id C
  have hnx := hnx.resolve_left (by simp [am_uncond])
  obtain ⟨N, f, fs, he, hq, h0, h1, rfl⟩ := am_sR_sp hl
  have hokE := hRe.okE a
  rw [he] at hokE
  have hi := am_in_lt h0 h1 hokE.1
  have ox := hRe.okst _ List.mem_cons_self
  have hq0 : q ≠ 0 ∧ q < h.1.1 := ⟨fun g => (by rw [g, hRe.2.2.2.1] at hq; cases hq), ox⟩
  have hwq : (am_ws tA ad h)[q - 1]? = some (ad q, .inr (0, fs.map (am_cv ad))) := by rw [am_ws_at hq0.1 hq0.2, hq]; rfl
  obtain ⟨g1, g2, hwa⟩ := hRe.arrA he (by decide)
  refine va_astq hx hb hK hRe.1 hRe.2.1 hRe.S (a - 1) 4 (q - 1) 0 hwa rfl hwq rfl (am_vin hi h0 h1) hdec (fun H1 locs1 hP hD hS => ?_)
  refine K (pc + 1) ad lsC H1 locs1 hnx hck (hRe.up g1 g2 (e := .inl (4, N, .inr (.inr (am_fu f i.toNat (some q))))) (⟨hokE.1, fun j w hw => by unfold am_fu at hw; split at hw; (cases hw; exact ox); exact hokE.2.1 j w hw, rfl⟩) (fun w hw => List.mem_cons_of_mem _ (List.mem_cons_of_mem _ (List.mem_cons_of_mem _ hw))) ?_ ?_ hS)
  · rw [am_clamp hi] at hP
    simp only [am_cE, am_fu_cvr]
    exact hP
  · rw [am_clamp hi] at hD
    simp only [am_cE, am_fu_cvr]
    exact hD
theorem am_s_alen (C : am_Cx p s m args meth c D tA b B0 L xs M) {a : Nat} (hl : am_ln h a = some x) (K : am_Gl p l e R s m args below meth c Q D tA b B0 L xs a0 cE sE M (es) (ls) (.inl x :: st) (h)) : am_Gl p l e R s m args below meth c Q D tA b B0 L xs a0 cE sE M ((pc, .arraylength, len, os, z) :: es) (ls) (.inr (.inr (some a)) :: st) (h) := by
  intro pc0 ad lsC H locs hpc hchk hRe
  have hpc := hpc _ rfl
  dsimp only at hpc
  subst hpc
  obtain ⟨hdec, hlk, -, hnx, hck⟩ := am_chk_cons hchk rfl
  obtain rfl : len = 1 := by simpa [am_okL] using hlk
  obtain ⟨hx, hb, hr, hml, hown, hts, hlocks, hname, hK, hX, hb0, hB0, hL⟩ := id C
  have hnx := hnx.resolve_left (by simp [am_uncond])
  obtain ⟨t, N, f, he, rfl, h5⟩ := am_ln_sp hl
  have hokE := hRe.okE a
  rw [he] at hokE
  have hN := am_okE_len hokE
  have K' := K (pc + 1) ad lsC H locs hnx hck (hRe.push (v := .inl (N : Int)) ⟨by omega, by omega⟩ (fun w hw => List.mem_cons_of_mem _ hw))
  have eN : Int32.ofNat N = Int32.ofInt (N : Int) := Int32.ofInt_eq_ofNat.symm
  by_cases ha : a = 0
  · subst ha
    rw [hRe.2.2.2.1] at he
    cases he
    obtain ⟨scr, q1, q2, q3, q4, q5⟩ := hX
    have hHb : H[b]? = some scr := by rw [hRe.S.2.1 b (by omega) (by omega)]; exact q1
    show W p l e R s m args below meth c H locs _ _ Q (F0 m pc lsC (.ref (ad 0) :: st.map (am_cv ad)))
    rw [hRe.2.2.1.1]
    refine W.alen (n := Int32.ofNat L) hx hb hHb q2 (by rw [q4] <;> rfl) rfl rfl hdec ?_
    rw [eN]
    exact K'
  · have h2 : a < h.1.1 := by
      apply Nat.lt_of_not_le
      intro q
      rw [hRe.2.2.2.2.2.1 a q] at he
      cases he
    have hwa : (am_ws tA ad h)[a - 1]? = some (ad a, am_cE tA ad (.inl (t, N, f))) := by rw [am_ws_at ha h2, he]
    obtain ⟨j, ty, hj⟩ := am_tys_at (tA := tA) hokE (fun q => ha (h5 q))
    obtain ⟨x0, hx0, hx1⟩ := am_cE_arr (tA := tA) (ad := ad) (t := t) (N := N) (f := f)
    rw [hx0] at hwa
    refine va_alen hx hb hK hRe.1 (a - 1) j hwa hj (by rw [hx1]) hdec ?_
    exact K'
end AMH
