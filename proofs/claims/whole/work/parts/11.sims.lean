/-! calls of the system's own methods (by wip/whole/sim4.py) -/
theorem am_okC_sp {own : String} {kind idx len y n t rc vk wl wi ws wini wc : Nat} (h : am_okC own kind idx len [0, y, n, t, rc, vk, wl, wi, ws, wini, wc] = true) : len = 3 ∧ am_rtk (am_mi y).2.2.2 t = true ∧ ((am_mi y).1.cls ≠ "java/lang/invoke/MethodHandle" ∧ (am_mi y).1.cls ≠ "java/lang/invoke/VarHandle") ∧
    (∃ sg, parseMethodDescriptor (am_mi y).1.desc = some sg ∧ (if kind = 2 then sg.parameters.length = n else sg.parameters.length + 1 = n)) ∧ Jvm.Cond.code (am_mi y).1 (am_mi y).2.1 (am_mi y).2.2.1 (am_mi y).2.2.2 ∈ am_tb ∧ Jvm.Cond.initialized (am_mi y).1.cls ∈ am_tb ∧
    (Jvm.Cond.methodLink own idx (am_mi y).1 ∈ am_tb ∨ ∃ host, Jvm.Cond.methodLinkNest own idx (am_mi y).1 host ∈ am_tb) ∧ (kind = 2 → Jvm.Cond.static (am_mi y).1 ∈ am_tb) ∧ (kind ≠ 2 → Jvm.Cond.instanceMethod (am_mi y).1 ∈ am_tb) ∧
    (kind = 0 → Jvm.Cond.selects (am_mi y).1.cls (am_mi y).1 (am_mi y).1 ∈ am_tb ∧ (1 ≤ rc ∧ rc < 12) ∧ am_Cn (rc - 1) = (am_mi y).1.cls) ∧ (kind = 4 → (am_mi y).1.name = "<init>" ∧ (am_mi y).2.2.2 = none ∧ rc = 100) := by
  unfold am_okC at h
  simp only [Bool.and_eq_true, beq_iff_eq, decide_eq_true_eq] at h
  obtain ⟨⟨⟨⟨⟨⟨⟨⟨⟨⟨⟨h1, h2⟩, h3⟩, h4⟩, h5⟩, h6⟩, h7⟩, h8⟩, h9⟩, h10⟩, h11⟩, h12⟩ := h
  refine ⟨h1, h3, h4, ?_, am_wd_mem h6, am_wd_mem h7, ?_, fun q => ?_, fun q => ?_, fun q => ?_, fun q => ?_⟩
  · split at h5
    next sg hsg =>
      refine ⟨sg, hsg, ?_⟩
      split at h5
      next hk => rw [if_pos hk]; exact of_decide_eq_true h5
      next hk => rw [if_neg hk]; exact of_decide_eq_true h5
    next => cases h5
  · split at h9
    · exact Or.inl (am_wd_mem h9)
    · exact Or.inr (am_mtN_mem h9)
  · rw [if_pos q] at h10
    simp only [Bool.and_eq_true] at h10
    exact am_wd_mem h10.1
  · rw [if_neg q] at h10
    exact am_wd_mem h10
  · rw [if_pos q] at h11
    simp only [Bool.and_eq_true, decide_eq_true_eq, beq_iff_eq] at h11
    exact ⟨am_wd_mem h11.1.1, h11.1.2, h11.2⟩
  · rw [if_pos q] at h12
    simp only [Bool.and_eq_true, decide_eq_true_eq, beq_iff_eq] at h12
    exact ⟨h12.1.1, h12.1.2, h12.2⟩
theorem am_rcv_sp {h : am_H} {k : Nat} (hk : k < 12) {av : List am_V} (hr : am_rcv h (k + 1) av = true) : ∃ a As, av = .inr (.inr (some a)) :: As ∧ am_isO h a k = true := by
  rcases av with _ | ⟨v, As⟩
  · simp [am_rcv] at hr
  · rcases v with v | v | _ | a
    · simp [am_rcv] at hr
    · simp [am_rcv] at hr
    · simp [am_rcv] at hr
    · refine ⟨a, As, rfl, ?_⟩
      unfold am_rcv at hr
      split at hr
      next q _ => omega
      next q _ => omega
      next q1 q2 => cases q1; cases q2; exact hr
      next => cases hr
theorem am_rcv_sp2 {h : am_H} {av : List am_V} (hr : am_rcv h 100 av = true) : ∃ a As, av = .inr (.inr (some a)) :: As := by
  rcases av with _ | ⟨v, As⟩
  · simp [am_rcv] at hr
  · rcases v with v | v | _ | a
    · simp [am_rcv] at hr
    · simp [am_rcv] at hr
    · simp [am_rcv] at hr
    · exact ⟨a, As, rfl⟩
theorem am_isO_sp {h : am_H} {a k : Nat} (hr : am_isO h a k = true) : ∃ fs, h.2 a = .inr (k, fs) := by
  unfold am_isO at hr
  split at hr
  next c fs he => rw [of_decide_eq_true hr] at he; exact ⟨fs, he⟩
  next => cases hr
section AMK
variable {p : Program} {l : Launch} {e : Env} {R : Room} {s : State} {m : MethodId} {args : Array Value} {below : List Frame} {meth : Method} {c : Code} {Q : State → Prop} {D : va_G} {tA : Nat → ClassId} {b B0 L : Nat} {xs : Nat → Int32} {a0 : Nat → Nat} {cE sE M : Nat} {d : Nat}
variable {pc len k : Nat} {os : List Nat} {z x y : Int} {es : List am_I} {ls st : List am_V} {h : am_H} {r r1 : am_R}
variable {ad : Nat → Nat} {H : Heap} {locs : List Loc} {lsC : Array Slot}
theorem am_retW (hRe : am_Re s D tA b B0 L xs a0 (am_mi M).2.2.1 cE sE ad h H locs ls lsC st) {st0 : List Value} {rest : List am_V} {a : Array Value}
    (hr : va_Run p l e R s m args below meth c H locs (h.1.1 - cE) (h.1.2 - sE) (r1.2.1.1 - h.1.1) (r1.2.1.2 - h.1.2) (F0 m pc lsC st0) (rest.map (am_cv ad)) (am_QcM D tA b B0 L xs ad h r1 a) (fun q => B0 ≤ q))
    (hmono : h.1.1 ≤ r1.2.1.1 ∧ h.1.2 ≤ r1.2.1.2) (hrest : ∀ w ∈ rest, w ∈ st) (hnx : ∀ x, es.head? = some x → x.1 = pc + 3) (hck : am_chk M es = true) (K : am_Gl p l e R s m args below meth c Q D tA b B0 L xs a0 cE sE M (es) (ls) (r1.1.toList ++ rest) (r1.2)) :
    W p l e R s m args below meth c H locs (h.1.1 - cE) (h.1.2 - sE) Q (F0 m pc lsC st0) := by
  intro T hT X
  obtain ⟨v, st₀, t, T', L', h0, X', hL', e1, e2, ⟨ad', x1, x2, x3, x4, x5, x6⟩, hst⟩ := hr T hT X
  cases x2
  obtain ⟨a1, a2, a3, a4, a5, a6, a7, a8, a9, a10, a11, a12, a13, a14⟩ := hRe
  rw [h0] at x5 x6
  obtain ⟨y1, y2, y3, y4, y5, y6, y7⟩ := x3
  have hS : va_S (fun q : Nat => B0 ≤ q) s.heap T'.heap (locs ++ L') := by
    refine ⟨by rw [e1]; exact Nat.le_trans a12.1 x5, fun q q1 q2 => ?_, fun q hq => ?_⟩
    · rw [e1, x6 q (Nat.lt_of_lt_of_le q1 a12.1) q2]
      exact a12.2.1 q q1 q2
    · rcases List.mem_append.mp hq with g | g
      · exact a12.2.2 q g
      · exact hL' q g
  have hRe' : am_Re s D tA b B0 L xs a0 (am_mi M).2.2.1 cE sE ad' r1.2 T'.heap (locs ++ L') ls lsC (r1.1.toList ++ rest) := by
    refine ⟨by rw [e1]; exact y1, y2, ⟨y3, fun k hk => (x1 k (Nat.lt_of_lt_of_le hk a13)).trans (a3.2 k hk)⟩, y4, y5, y6, y7, a8.ext x1 a10, a9, fun w hw => am_okV_mono hmono.1 (a10 w hw), fun w hw => ?_, hS, Nat.le_trans a13 hmono.1, Nat.le_trans a14 hmono.2⟩
    rcases List.mem_append.mp hw with g | g
    · exact x4 w (by simpa using g)
    · exact am_okV_mono hmono.1 (a11 w (hrest w g))
  rw [show h.1.1 - cE + (r1.2.1.1 - h.1.1) = r1.2.1.1 - cE by omega, show h.1.2 - sE + (r1.2.1.2 - h.1.2) = r1.2.1.2 - sE by omega] at X'
  obtain ⟨t2, g1, g2⟩ := K (pc + 3) ad' lsC T'.heap (locs ++ L') hnx hck hRe' T' rfl X'
  refine ⟨t2, hst t2 ?_, g2⟩
  rw [List.map_append, am_cvs_ext x1 (fun w hw => a11 w (hrest w hw)), ← Option.toList_map] at g1
  exact g1
theorem am_pre (C : am_Cx p s m args meth c D tA b B0 L xs M) (hRe : am_Re s D tA b B0 L xs a0 (am_mi M).2.2.1 cE sE ad h H locs ls lsC st) (av : List am_V) {U : State} (hU : U.heap = H) (hW : s.WarmedH U.vm) : am_PcM D tA b B0 L xs ad av h (av.map (am_cv ad)).toArray U := by
  obtain ⟨hx, hb, hr, hml, hown, hts, hlocks, hname, hK, hX, hb0, hB0, hL⟩ := C
  obtain ⟨a1, a2, a3, a4, a5, a6, a7, a8, a9, a10, a11, a12, a13, a14⟩ := hRe
  refine ⟨rfl, am_KK_warm hW (am_KK_of hK hts), ?_, hb0, ?_, hL, ?_⟩
  · rw [hU]
    exact (hX.kept (a12.2.1 b (by omega) (by omega))).moved hW.alike
  · rw [hU]
    exact Nat.le_trans hB0 a12.1
  · rw [hU]
    exact ⟨a1, a2, a3.1, a4, a5, a6, a7⟩
theorem am_split (ad : Nat → Nat) (st : List am_V) (n : Nat) : st.map (am_cv ad) = (((st.take n).reverse).map (am_cv ad)).reverse ++ (st.drop n).map (am_cv ad) := by
  rw [← List.map_reverse, List.reverse_reverse, ← List.map_append, List.take_append_drop]
theorem am_s_invokestatic (C : am_Cx p s m args meth c D tA b B0 L xs M) {idx y0 n t rc vk wl wi ws wini wc : Nat} (hct : am_Ct l D tA b B0 L xs d y0 (st.take n).reverse h r1) (hmono : h.1.1 ≤ r1.2.1.1 ∧ h.1.2 ≤ r1.2.1.2) (hrc : am_rcv h rc (st.take n).reverse = true) (hn : n ≤ st.length) (hcat : am_cats (st.drop n) ≤ 8) (hc1 : r1.2.1.1 ≤ cE + R.cells) (hc2 : r1.2.1.2 ≤ sE + R.slots) (hf : d + 2 ≤ R.frames) (hlo : 40 + 60 * (d + 1) ≤ R.locals) (K : am_Gl p l e R s m args below meth c Q D tA b B0 L xs a0 cE sE M (es) (ls) (r1.1.toList ++ st.drop n) (r1.2)) : am_Gl p l e R s m args below meth c Q D tA b B0 L xs a0 cE sE M ((pc, .invokestatic idx, len, [0, y0, n, t, rc, vk, wl, wi, ws, wini, wc], z) :: es) (ls) (st) (h) := by
  intro pc0 ad lsC H locs hpc hchk hRe
  have hpc := hpc _ rfl
  dsimp only at hpc
  subst hpc
  obtain ⟨hdec, hlk, -, hnx, hck⟩ := am_chk_cons hchk rfl
  simp only [am_okL] at hlk
  obtain ⟨rfl, hrt, hy, ⟨sg, hsg, hsgn⟩, hcode, hini, hlink, hstat, hinst, hvirt, hspec⟩ := am_okC_sp hlk
  obtain ⟨hx, hb, hr, hml, hown, hts, hlocks, hname, hK, hX, hb0, hB0, hL⟩ := id C
  have hnx := hnx.resolve_left (by simp [am_uncond])
  rw [if_pos rfl] at hsgn
  have hlen : ((st.take n).reverse).length = n := by rw [List.length_reverse, List.length_take]; omega
  have hmx := (am_mi_ok y0).2
  have hM := hct ad (fun v hv => hRe.okst v (List.mem_of_mem_take (List.mem_reverse.mp hv)))
  have hsE := hRe.2.2.2.2.2.2.2.2.2.2.2.2
  have hrest : ∀ w ∈ st.drop n, w ∈ st := fun w hw => List.mem_of_mem_drop hw
  have hsize : lsC.size = lsC.size := rfl
  have hmls : c.maxLocals = lsC.size := hml.trans (hRe.len.symm.trans hRe.LR.1.symm)
  have hcats : 2 * (F0 m pc lsC (st.map (am_cv ad))).monitorRoom + (((st.drop n).map (am_cv ad)).map fun v => v.category).sum ≤ 8 := by
    show 2 * 0 + _ ≤ 8
    rw [am_cats_cv]
    omega
  have hroom : h.1.1 - cE + (r1.2.1.1 - h.1.1) ≤ R.cells ∧ h.1.2 - sE + (r1.2.1.2 - h.1.2) ≤ R.slots := by omega
  have hpay := pay_in hts (am_good hcode)
  have hlo2 : 8 + ((am_mi y0).2.2.1 + 11) + (am_rm d (r1.2.1.1 - h.1.1) (r1.2.1.2 - h.1.2)).locals ≤ R.locals := by
    show 8 + ((am_mi y0).2.2.1 + 11) + (40 + 60 * d) ≤ R.locals
    omega
  have hfr : (am_rm d (r1.2.1.1 - h.1.1) (r1.2.1.2 - h.1.2)).frames + 1 ≤ R.frames := by show d + 1 + 1 ≤ _; omega
  have hpre : ∀ U : State, U.heap = H → s.WarmedH U.vm → am_PcM D tA b B0 L xs ad (st.take n).reverse h (((st.take n).reverse).map (am_cv ad)).toArray U := fun U hU hW => am_pre C hRe _ hU hW
  have hsp := am_split ad st n
  generalize hav : (st.take n).reverse = av at *
  have hps : PreS s H (am_PcM D tA b B0 L xs ad av h) (av.map (am_cv ad)) := ⟨am_blind, fun U hU hW => hpre U hU hW⟩
  refine am_retW hRe (a := (av.map (am_cv ad)).toArray) ?_ hmono hrest hnx hck K
  rcases hlink with g | ⟨host, g⟩
  · exact va_runS (n := sg.parameters.length) ⟨hx, hb, hmls, hown, hts⟩ hM ⟨⟨rfl, rfl, hfr, hlo2, hpay, List.mem_cons_self, hts _ hcode, hts _ hini, hy, fun sig hs => by rw [hsg] at hs; cases hs; rfl, hts _ g⟩, hts _ (hstat rfl)⟩ hps rfl (by rw [List.length_map]; omega) rfl hsp hcats hdec hroom
  · exact va_runSN (n := sg.parameters.length) (host := host) ⟨hx, hb, hmls, hown, hts⟩ hM ⟨⟨⟨rfl, rfl, hfr, hlo2, hpay, List.mem_cons_self⟩, hts _ hcode, hts _ hini, hy, fun sig hs => by rw [hsg] at hs; cases hs; rfl, hts _ g⟩, hts _ (hstat rfl), trivial⟩ hps rfl (by rw [List.length_map]; omega) rfl hsp hcats hdec hroom
theorem am_s_invokevirtual (C : am_Cx p s m args meth c D tA b B0 L xs M) {idx y0 n t rc vk wl wi ws wini wc : Nat} (hct : am_Ct l D tA b B0 L xs d y0 (st.take n).reverse h r1) (hmono : h.1.1 ≤ r1.2.1.1 ∧ h.1.2 ≤ r1.2.1.2) (hrc : am_rcv h rc (st.take n).reverse = true) (hn : n ≤ st.length) (hcat : am_cats (st.drop n) ≤ 8) (hc1 : r1.2.1.1 ≤ cE + R.cells) (hc2 : r1.2.1.2 ≤ sE + R.slots) (hf : d + 2 ≤ R.frames) (hlo : 40 + 60 * (d + 1) ≤ R.locals) (K : am_Gl p l e R s m args below meth c Q D tA b B0 L xs a0 cE sE M (es) (ls) (r1.1.toList ++ st.drop n) (r1.2)) : am_Gl p l e R s m args below meth c Q D tA b B0 L xs a0 cE sE M ((pc, .invokevirtual idx, len, [0, y0, n, t, rc, vk, wl, wi, ws, wini, wc], z) :: es) (ls) (st) (h) := by
  intro pc0 ad lsC H locs hpc hchk hRe
  have hpc := hpc _ rfl
  dsimp only at hpc
  subst hpc
  obtain ⟨hdec, hlk, -, hnx, hck⟩ := am_chk_cons hchk rfl
  simp only [am_okL] at hlk
  obtain ⟨rfl, hrt, hy, ⟨sg, hsg, hsgn⟩, hcode, hini, hlink, hstat, hinst, hvirt, hspec⟩ := am_okC_sp hlk
  obtain ⟨hx, hb, hr, hml, hown, hts, hlocks, hname, hK, hX, hb0, hB0, hL⟩ := id C
  have hnx := hnx.resolve_left (by simp [am_uncond])
  rw [if_neg (by decide)] at hsgn
  have hlen : ((st.take n).reverse).length = n := by rw [List.length_reverse, List.length_take]; omega
  have hmx := (am_mi_ok y0).2
  have hM := hct ad (fun v hv => hRe.okst v (List.mem_of_mem_take (List.mem_reverse.mp hv)))
  have hsE := hRe.2.2.2.2.2.2.2.2.2.2.2.2
  have hrest : ∀ w ∈ st.drop n, w ∈ st := fun w hw => List.mem_of_mem_drop hw
  have hsize : lsC.size = lsC.size := rfl
  have hmls : c.maxLocals = lsC.size := hml.trans (hRe.len.symm.trans hRe.LR.1.symm)
  have hcats : 2 * (F0 m pc lsC (st.map (am_cv ad))).monitorRoom + (((st.drop n).map (am_cv ad)).map fun v => v.category).sum ≤ 8 := by
    show 2 * 0 + _ ≤ 8
    rw [am_cats_cv]
    omega
  have hroom : h.1.1 - cE + (r1.2.1.1 - h.1.1) ≤ R.cells ∧ h.1.2 - sE + (r1.2.1.2 - h.1.2) ≤ R.slots := by omega
  have hpay := pay_in hts (am_good hcode)
  have hlo2 : 8 + ((am_mi y0).2.2.1 + 11) + (am_rm d (r1.2.1.1 - h.1.1) (r1.2.1.2 - h.1.2)).locals ≤ R.locals := by
    show 8 + ((am_mi y0).2.2.1 + 11) + (40 + 60 * d) ≤ R.locals
    omega
  have hfr : (am_rm d (r1.2.1.1 - h.1.1) (r1.2.1.2 - h.1.2)).frames + 1 ≤ R.frames := by show d + 1 + 1 ≤ _; omega
  have hpre : ∀ U : State, U.heap = H → s.WarmedH U.vm → am_PcM D tA b B0 L xs ad (st.take n).reverse h (((st.take n).reverse).map (am_cv ad)).toArray U := fun U hU hW => am_pre C hRe _ hU hW
  have hsp := am_split ad st n
  obtain ⟨hsel, ⟨hrc1, hrc2⟩, hcn⟩ := hvirt rfl
  generalize hav : (st.take n).reverse = av at *
  obtain ⟨k, rfl⟩ : ∃ k, rc = k + 1 := ⟨rc - 1, by omega⟩
  obtain ⟨a, As, rfl, hO⟩ := am_rcv_sp (by omega) hrc
  obtain ⟨fs, he⟩ := am_isO_sp hO
  have hA : a ≠ 0 ∧ a < h.1.1 := ⟨fun q => (by rw [q, hRe.2.2.2.1] at he; cases he), hRe.okst (.inr (.inr (some a))) (by
    have : (Sum.inr (Sum.inr (some a)) : am_V) ∈ (st.take n).reverse := by rw [hav]; exact List.mem_cons_self
    exact List.mem_of_mem_take (List.mem_reverse.mp this))⟩
  have hwa : (am_ws tA ad h)[a - 1]? = some (ad a, .inr (k, fs.map (am_cv ad))) := by rw [am_ws_at hA.1 hA.2, he]; rfl
  have hrv := va_recv hK hRe.1 (am_cl_at (show k < 11 by omega)) hwa
  have hcn' : am_Cn k = (am_mi y0).1.cls := hcn
  dsimp only at hrv
  rw [hcn'] at hrv
  have hpv : PreV s H (am_mi y0).1.cls (ad a) (am_PcM D tA b B0 L xs ad (.inr (.inr (some a)) :: As) h) (As.map (am_cv ad)) := ⟨am_blind, hrv, fun U hU hW => hpre U hU hW⟩
  have hsp2 : st.map (am_cv ad) = (As.map (am_cv ad)).reverse ++ Value.ref (ad a) :: (st.drop n).map (am_cv ad) := by
    rw [hsp, List.map_cons, List.reverse_cons, List.append_assoc]
    rfl
  refine am_retW hRe (a := (Value.ref (ad a) :: As.map (am_cv ad)).toArray) ?_ hmono hrest hnx hck K
  have hlA : (As.map (am_cv ad)).length = sg.parameters.length := by rw [List.length_map]; rw [List.length_cons] at hlen; omega
  rcases hlink with g | ⟨host, g⟩
  · exact va_runV (n := sg.parameters.length) ⟨hx, hb, hmls, hown, hts⟩ hM ⟨⟨rfl, rfl, hfr, hlo2, hpay, List.mem_cons_self, hts _ hcode, hts _ hini, hy, fun sig hs => by rw [hsg] at hs; cases hs; rfl, hts _ g⟩, hts _ (hinst (by decide)), hts _ hsel⟩ hpv rfl hlA rfl hsp2 hcats hdec hroom
  · exact va_runVN (n := sg.parameters.length) (host := host) ⟨hx, hb, hmls, hown, hts⟩ hM ⟨⟨⟨rfl, rfl, hfr, hlo2, hpay, List.mem_cons_self⟩, hts _ hcode, hts _ hini, hy, fun sig hs => by rw [hsg] at hs; cases hs; rfl, hts _ g⟩, hts _ (hinst (by decide)), hts _ hsel⟩ hpv rfl hlA rfl hsp2 hcats hdec hroom
theorem am_s_invokespecial (C : am_Cx p s m args meth c D tA b B0 L xs M) {idx y0 n t rc vk wl wi ws wini wc : Nat} (hct : am_Ct l D tA b B0 L xs d y0 (st.take n).reverse h r1) (hmono : h.1.1 ≤ r1.2.1.1 ∧ h.1.2 ≤ r1.2.1.2) (hrc : am_rcv h rc (st.take n).reverse = true) (hn : n ≤ st.length) (hcat : am_cats (st.drop n) ≤ 8) (hc1 : r1.2.1.1 ≤ cE + R.cells) (hc2 : r1.2.1.2 ≤ sE + R.slots) (hf : d + 2 ≤ R.frames) (hlo : 40 + 60 * (d + 1) ≤ R.locals) (K : am_Gl p l e R s m args below meth c Q D tA b B0 L xs a0 cE sE M (es) (ls) (r1.1.toList ++ st.drop n) (r1.2)) : am_Gl p l e R s m args below meth c Q D tA b B0 L xs a0 cE sE M ((pc, .invokespecial idx, len, [0, y0, n, t, rc, vk, wl, wi, ws, wini, wc], z) :: es) (ls) (st) (h) := by
  intro pc0 ad lsC H locs hpc hchk hRe
  have hpc := hpc _ rfl
  dsimp only at hpc
  subst hpc
  obtain ⟨hdec, hlk, -, hnx, hck⟩ := am_chk_cons hchk rfl
  simp only [am_okL] at hlk
  obtain ⟨rfl, hrt, hy, ⟨sg, hsg, hsgn⟩, hcode, hini, hlink, hstat, hinst, hvirt, hspec⟩ := am_okC_sp hlk
  obtain ⟨hx, hb, hr, hml, hown, hts, hlocks, hname, hK, hX, hb0, hB0, hL⟩ := id C
  have hnx := hnx.resolve_left (by simp [am_uncond])
  rw [if_neg (by decide)] at hsgn
  have hlen : ((st.take n).reverse).length = n := by rw [List.length_reverse, List.length_take]; omega
  have hmx := (am_mi_ok y0).2
  have hM := hct ad (fun v hv => hRe.okst v (List.mem_of_mem_take (List.mem_reverse.mp hv)))
  have hsE := hRe.2.2.2.2.2.2.2.2.2.2.2.2
  have hrest : ∀ w ∈ st.drop n, w ∈ st := fun w hw => List.mem_of_mem_drop hw
  have hsize : lsC.size = lsC.size := rfl
  have hmls : c.maxLocals = lsC.size := hml.trans (hRe.len.symm.trans hRe.LR.1.symm)
  have hcats : 2 * (F0 m pc lsC (st.map (am_cv ad))).monitorRoom + (((st.drop n).map (am_cv ad)).map fun v => v.category).sum ≤ 8 := by
    show 2 * 0 + _ ≤ 8
    rw [am_cats_cv]
    omega
  have hroom : h.1.1 - cE + (r1.2.1.1 - h.1.1) ≤ R.cells ∧ h.1.2 - sE + (r1.2.1.2 - h.1.2) ≤ R.slots := by omega
  have hpay := pay_in hts (am_good hcode)
  have hlo2 : 8 + ((am_mi y0).2.2.1 + 11) + (am_rm d (r1.2.1.1 - h.1.1) (r1.2.1.2 - h.1.2)).locals ≤ R.locals := by
    show 8 + ((am_mi y0).2.2.1 + 11) + (40 + 60 * d) ≤ R.locals
    omega
  have hfr : (am_rm d (r1.2.1.1 - h.1.1) (r1.2.1.2 - h.1.2)).frames + 1 ≤ R.frames := by show d + 1 + 1 ≤ _; omega
  have hpre : ∀ U : State, U.heap = H → s.WarmedH U.vm → am_PcM D tA b B0 L xs ad (st.take n).reverse h (((st.take n).reverse).map (am_cv ad)).toArray U := fun U hU hW => am_pre C hRe _ hU hW
  have hsp := am_split ad st n
  obtain ⟨hnm, hret, rfl⟩ := hspec rfl
  generalize hav : (st.take n).reverse = av at *
  obtain ⟨a, As, rfl⟩ := am_rcv_sp2 hrc
  have hpv : PreS s H (am_PcM D tA b B0 L xs ad (.inr (.inr (some a)) :: As) h) (.ref (ad a) :: As.map (am_cv ad)) := ⟨am_blind, fun U hU hW => hpre U hU hW⟩
  have hsp2 : st.map (am_cv ad) = (As.map (am_cv ad)).reverse ++ Value.ref (ad a) :: (st.drop n).map (am_cv ad) := by
    rw [hsp, List.map_cons, List.reverse_cons, List.append_assoc]
    rfl
  refine am_retW hRe (a := (Value.ref (ad a) :: As.map (am_cv ad)).toArray) ?_ hmono hrest hnx hck K
  have hlA : (As.map (am_cv ad)).length = sg.parameters.length := by rw [List.length_map]; rw [List.length_cons] at hlen; omega
  rw [hret] at hcode
  unfold am_wsM at hM hpay
  rw [hret] at hM hpay
  rcases hlink with g | ⟨host, g⟩
  · exact va_runI (n := sg.parameters.length) ⟨hx, hb, hmls, hown, hts⟩ hM ⟨⟨rfl, rfl, hfr, hlo2, hpay, List.mem_cons_self, hts _ hcode, hts _ hini, hy, fun sig hs => by rw [hsg] at hs; cases hs; rfl, hts _ g⟩, hnm, hts _ (hinst (by decide))⟩ hpv rfl hlA rfl hsp2 hcats hdec hroom
  · exact va_runIN (n := sg.parameters.length) (host := host) ⟨hx, hb, hmls, hown, hts⟩ hM ⟨⟨⟨rfl, rfl, hfr, hlo2, hpay, List.mem_cons_self⟩, hts _ hcode, hts _ hini, hy, fun sig hs => by rw [hsg] at hs; cases hs; rfl, hts _ g⟩, hnm, hts _ (hinst (by decide))⟩ hpv rfl hlA rfl hsp2 hcats hdec hroom
end AMK
