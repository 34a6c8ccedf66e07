/-! contracts, calls, and the theorem: what the small machine comes to, the real one comes to (by wip/whole/sim3.py) -/
theorem am_AOin : Jvm.Cond.arrayOver (.object "NumberWords$Book") ∈ am_tb := by
  have h : lw_tbl.any am_ao = true := by decide +kernel
  obtain ⟨w, h1, h2⟩ := List.any_eq_true.mp h
  have h3 : w = .arrayOver (.object "NumberWords$Book") := by
    unfold am_ao at h2
    split at h2
    · rw [of_decide_eq_true h2]
    · cases h2
  rw [h3] at h1
  exact List.mem_filter.mpr ⟨h1, by decide +kernel⟩
def am_KK (D : va_G) (tA : Nat → ClassId) (U : State) : Prop := va_K D am_cl (am_tys tA) U ∧ (∀ w ∈ am_tb, am_nw w = true → va_Nw w U) ∧ va_AO "NumberWords$Book" U
theorem am_nw_on {w : Jvm.Cond} (h : am_nw w = true) : w.onTables = true := by
  unfold am_nw at h
  split at h
  · rfl
  · rfl
  · cases h
theorem am_nw_warm {w : Jvm.Cond} {s U : State} (h : am_nw w = true) (hW : s.WarmedH U.vm) (hz : va_Nw w s) : va_Nw w U := by
  unfold am_nw at h
  split at h
  · exact va_Nw.warmF hW hz
  · exact va_Nw.warmM hW hz
  · cases h
theorem am_KK_of {D : va_G} {tA : Nat → ClassId} {s : State} {args : Array Value} (hK : va_K D am_cl (am_tys tA) s) (hts : ∀ w ∈ am_tb, w.before args s = true) : am_KK D tA s :=
  ⟨hK, fun w hw hn => va_Nw.of (am_nw_on hn) (hts w hw), hts _ am_AOin⟩
theorem am_KK_warm {D : va_G} {tA : Nat → ClassId} {s U : State} (hW : s.WarmedH U.vm) (h : am_KK D tA s) : am_KK D tA U :=
  ⟨va_K.moved hW.alike h.1, fun w hw hn => am_nw_warm hn hW (h.2.1 w hw hn), h.2.2.moved hW.alike⟩
theorem am_KK_same {D : va_G} {tA : Nat → ClassId} {u U : State} (hv : u.vm = U.vm) (h : am_KK D tA u) : am_KK D tA U :=
  ⟨va_K.moved (by rw [hv]; exact Vm.Alike.refl _) h.1, fun w hw hn => va_Nw.same (am_nw_on hn) hv (h.2.1 w hw hn), h.2.2.moved (by rw [hv]; exact Vm.Alike.refl _)⟩
def am_gw : List Jvm.Cond := am_tb.filter goodWord
def am_wsM (M : Nat) : List Jvm.Cond := .code (am_mi M).1 (am_mi M).2.1 (am_mi M).2.2.1 (am_mi M).2.2.2 :: am_gw
theorem am_hts {D : va_G} {tA : Nat → ClassId} {M : Nat} {s : State} {args : Array Value} (hK : am_KK D tA s) (h : ∀ w ∈ am_wsM M, w.before args s = true) : ∀ w ∈ am_tb, w.before args s = true := by
  intro w hw
  have h1 := (List.mem_filter.mp hw).2
  simp only [am_tg, Bool.or_eq_true] at h1
  rcases h1 with (h1 | h1) | h1
  · exact h w (List.mem_cons_of_mem _ (List.mem_filter.mpr ⟨hw, h1⟩))
  · exact va_Nw.use (am_nw_on h1) (hK.2.1 w hw h1)
  · unfold am_ao at h1
    split at h1
    · rw [of_decide_eq_true h1]; exact hK.2.2
    · cases h1
theorem am_good {M : Nat} (hc : Jvm.Cond.code (am_mi M).1 (am_mi M).2.1 (am_mi M).2.2.1 (am_mi M).2.2.2 ∈ am_tb) : GoodIn am_tb (am_wsM M) := by
  intro w hw
  rcases List.mem_cons.mp hw with rfl | hw
  · exact ⟨hc, Or.inl rfl⟩
  · obtain ⟨h1, h2⟩ := List.mem_filter.mp hw
    exact ⟨h1, good_of_word h2⟩
theorem am_ms_all : am_ms.all (fun x => plainName x.1.cls && decide (x.2.2.1 ≤ 30)) = true := by decide +kernel
theorem am_mi_ok (M : Nat) : plainName (am_mi M).1.cls = true ∧ (am_mi M).2.2.1 ≤ 30 := by
  unfold am_mi
  rw [List.getD_eq_getElem?_getD]
  cases hM : am_ms[M]? with
  | none => exact ⟨by decide +kernel, Nat.zero_le _⟩
  | some x =>
    have h := List.all_eq_true.mp am_ms_all x (List.mem_of_getElem? hM)
    simp only [Bool.and_eq_true, decide_eq_true_eq] at h
    exact h
theorem am_cs_all : am_cs.all (fun x => match x.1 with
  | [] => true
  | e :: _ => e.1 == 0) = true := by decide +kernel
theorem am_hd0 {M : Nat} {x : am_I} (h : (PG.1 M).1.head? = some x) : x.1 = 0 := by
  change (am_cs.getD M ([], 0)).1.head? = some x at h
  rw [List.getD_eq_getElem?_getD] at h
  cases hM : am_cs[M]? with
  | none => rw [hM] at h; cases h
  | some q =>
    rw [hM] at h
    have h1 := List.all_eq_true.mp am_cs_all q (List.mem_of_getElem? hM)
    change q.1.head? = some x at h
    split at h1
    next he => rw [he] at h; cases h
    next e r he => rw [he] at h; cases h; exact beq_iff_eq.mp h1
theorem am_cs_mx : am_cs.map (fun x => x.2) = am_ms.map (fun x => x.2.2.1) := by decide +kernel
theorem am_mx (M : Nat) : (PG.1 M).2 = (am_mi M).2.2.1 := by
  show (am_cs.getD M ([], 0)).2 = (am_ms.getD M (⟨"", "", ""⟩, code, 0, none)).2.2.1
  rw [List.getD_eq_getElem?_getD, List.getD_eq_getElem?_getD]
  have h := congrArg (fun l => l[M]?) am_cs_mx
  simp only [List.getElem?_map] at h
  cases h1 : am_cs[M]? with
  | none =>
    rw [h1] at h
    cases h2 : am_ms[M]? with
    | none => rfl
    | some y => rw [h2] at h; cases h
  | some x =>
    rw [h1] at h
    cases h2 : am_ms[M]? with
    | none => rw [h2] at h; cases h
    | some y => rw [h2] at h; exact Option.some.inj h
def am_rm (d mc ms : Nat) : Room := { frames := d + 1, cells := mc, slots := ms, locals := 40 + 60 * d }
def am_Rl (D : va_G) (tA : Nat → ClassId) (b B0 L : Nat) (xs : Nat → Int32) (ad : Nat → Nat) (h : am_H) (H : Heap) : Prop :=
  va_P D am_cl (am_ws tA ad h) H ∧ va_D (fun q : Nat => B0 ≤ q) (am_ws tA ad h) ∧ ad 0 = b ∧ h.2 0 = .inl (5, L, .inl (fun j => (xs j).toInt)) ∧ 1 ≤ h.1.1 ∧ (∀ k, h.1.1 ≤ k → h.2 k = .inr (0, [])) ∧ (∀ k, am_okE h.1.1 (h.2 k))
def am_PcM (D : va_G) (tA : Nat → ClassId) (b B0 L : Nat) (xs : Nat → Int32) (ad : Nat → Nat) (av : List am_V) (h : am_H) : Array Value → State → Prop := fun a U =>
  a = (av.map (am_cv ad)).toArray ∧ am_KK D tA U ∧ va_X b L xs U U.heap ∧ b < B0 ∧ B0 ≤ U.heap.size ∧ L < 2 ^ 31 ∧ am_Rl D tA b B0 L xs ad h U.heap
def am_QcM (D : va_G) (tA : Nat → ClassId) (b B0 L : Nat) (xs : Nat → Int32) (ad : Nat → Nat) (h : am_H) (r : am_R) : Array Value → State → Outcome → State → Prop := fun _ st oc t =>
  ∃ ad' : Nat → Nat, (∀ k, k < h.1.1 → ad' k = ad k) ∧ oc = .returned (r.1.map (am_cv ad')) ∧ am_Rl D tA b B0 L xs ad' r.2 t.heap ∧ (∀ v, r.1 = some v → am_okV r.2.1.1 v) ∧ st.heap.size ≤ t.heap.size ∧ ∀ q : Nat, q < st.heap.size → ¬ B0 ≤ q → t.heap[q]? = st.heap[q]?
def am_Ct (l : Launch) (D : va_G) (tA : Nat → ClassId) (b B0 L : Nat) (xs : Nat → Int32) (d M : Nat) (av : List am_V) (h : am_H) (r : am_R) : Prop :=
  ∀ ad : Nat → Nat, (∀ v ∈ av, am_okV h.1.1 v) → Met l (am_mi M).1 (am_wsM M) (am_rm d (r.2.1.1 - h.1.1) (r.2.1.2 - h.1.2)) (am_PcM D tA b B0 L xs ad av h) (am_QcM D tA b B0 L xs ad h r) (r.2.1.1 - h.1.1) (r.2.1.2 - h.1.2) (fun q => B0 ≤ q)
theorem am_blind {D : va_G} {tA : Nat → ClassId} {b B0 L : Nat} {xs : Nat → Int32} {ad : Nat → Nat} {av : List am_V} {h : am_H} : FrameBlind (am_PcM D tA b B0 L xs ad av h) := by
  intro a U g mk q
  obtain ⟨q1, q2, q3, q4, q5, q6, q7⟩ := q
  exact ⟨q1, am_KK_same (u := U) (U := U.calling g mk a) rfl q2, va_X.moved (u := U) (U := U.calling g mk a) (Vm.Alike.refl U.vm) q3, q4, q5, q6, q7⟩
def am_rmt (i : Instr) (z : Int) (v : Option am_V) : Prop := match i, v with
  | .ireturn, some (.inl x) => z = 0 ∨ (0 ≤ x ∧ x < 2)
  | .lreturn, some (.inr (.inl _)) => True
  | .areturn, some (.inr (.inr (some _))) => True
  | .return_, none => True
  | _, _ => False
def am_End (p : Program) (l : Launch) (e : Env) (R : Room) (s : State) (m : MethodId) (args : Array Value) (below : List Frame) (meth : Method) (c : Code) (Q : State → Prop) (D : va_G) (tA : Nat → ClassId) (b B0 L : Nat) (xs : Nat → Int32) (a0 : Nat → Nat) (cE sE M : Nat) (r : am_R) : Prop :=
  ∀ (pc : Nat) (i : Instr) (z : Int) (ad : Nat → Nat) (ls : List am_V) (lsC : Array Slot) (H : Heap) (locs : List Loc), decode (am_mi M).2.1 pc = .ok (i, 1) → am_rok (am_mi M).2.2.2 i z = true → am_rmt i z r.1 → am_Re s D tA b B0 L xs a0 (am_mi M).2.2.1 cE sE ad r.2 H locs ls lsC r.1.toList →
    W p l e R s m args below meth c H locs (r.2.1.1 - cE) (r.2.1.2 - sE) Q (F0 m pc lsC (r.1.toList.map (am_cv ad)))
def am_Sm (l : Launch) (D : va_G) (tA : Nat → ClassId) (b B0 L : Nat) (xs : Nat → Int32) (d M : Nat) (es : List am_I) (ls st : List am_V) (h : am_H) (r : am_R) : Prop :=
  (h.1.1 ≤ r.2.1.1 ∧ h.1.2 ≤ r.2.1.2) ∧ ∀ (p : Program) (e : Env) (R : Room) (s : State) (m : MethodId) (args : Array Value) (below : List Frame) (meth : Method) (c : Code) (Q : State → Prop) (a0 : Nat → Nat) (cE sE : Nat), am_Cx p s m args meth c D tA b B0 L xs M → r.2.1.1 ≤ cE + R.cells → r.2.1.2 ≤ sE + R.slots → d + 1 ≤ R.frames → 40 + 60 * d ≤ R.locals →
    am_End p l e R s m args below meth c Q D tA b B0 L xs a0 cE sE M r → am_Gl p l e R s m args below meth c Q D tA b B0 L xs a0 cE sE M es ls st h
theorem am_rtk1 {r : Option FieldType} (h : am_rtk r 1 = true) : r = some .int ∨ r = some .boolean := by
  rcases r with _ | ty
  · simp [am_rtk] at h
  · cases ty <;> simp [am_rtk] at h ⊢
theorem am_rtk2 {r : Option FieldType} (h : am_rtk r 2 = true) : r = some .long := by
  rcases r with _ | ty
  · simp [am_rtk] at h
  · cases ty <;> simp [am_rtk] at h ⊢
theorem am_rtk3 {r : Option FieldType} (h : am_rtk r 3 = true) : ∃ ty, r = some ty ∧ ((∃ n, ty = .object n) ∨ ∃ t, ty = .array t) := by
  rcases r with _ | ty
  · simp [am_rtk] at h
  · cases ty <;> simp [am_rtk] at h ⊢
theorem am_rtk0 {r : Option FieldType} (h : am_rtk r 0 = true) : r = none := by
  rcases r with _ | ty
  · rfl
  · cases ty <;> simp [am_rtk] at h
theorem am_narrow1 {r : Option FieldType} {z x : Int} (h : am_rok r .ireturn z = true) (hz : z = 0 ∨ (0 ≤ x ∧ x < 2)) : ∃ ty, r = some ty ∧ narrow ty (.int (Int32.ofInt x)) = .int (Int32.ofInt x) := by
  unfold am_rok at h
  simp only [Bool.and_eq_true, Bool.or_eq_true, decide_eq_true_eq] at h
  obtain ⟨h1, h2⟩ := h
  rcases am_rtk1 h1 with rfl | rfl
  · exact ⟨_, rfl, rfl⟩
  · have h3 := h2.resolve_left (fun q => q rfl)
    obtain ⟨h4, h5⟩ := hz.resolve_left h3
    refine ⟨_, rfl, ?_⟩
    show Value.int _ = _
    refine congrArg Value.int ?_
    rcases (show x = 0 ∨ x = 1 by omega) with rfl | rfl <;> decide +kernel
section AMC
variable {p : Program} {l : Launch} {e : Env} {R : Room} {s : State} {m : MethodId} {args : Array Value} {below : List Frame} {meth : Method} {c : Code} {Q : State → Prop} {D : va_G} {tA : Nat → ClassId} {b B0 L : Nat} {xs : Nat → Int32} {a0 : Nat → Nat} {cE sE M : Nat} {d : Nat}
variable {pc len k : Nat} {os : List Nat} {z x y : Int} {es : List am_I} {ls st : List am_V} {h : am_H} {r r1 : am_R}
theorem am_met {av : List am_V} (hl : (am_sl av).length ≤ (PG.1 M).2) (H : am_Sm l D tA b B0 L xs d M (PG.1 M).1 (am_entry av (PG.1 M).2) [] h r) : am_Ct l D tA b B0 L xs d M av h r := by
  intro ad hav
  refine Met.ofW (cc := (am_mi M).2.1) (maxL := (am_mi M).2.2.1) (ret := (am_mi M).2.2.2) (am_mi_ok M).1 rfl ?_
  intro p e s m args below meth c s₁ B hml hv
  obtain ⟨rfl, hKK, hX, hb0, hB0, hL, hRl⟩ := hv
  have hts := am_hts hKK (atoms_spec (ws := am_wsM M) B.pre)
  have C : am_Cx p s m (av.map (am_cv ad)).toArray meth c D tA b B0 L xs M := ⟨B.exec, B.bytes, B.returns, hml, findClass_of_methodNamed B.named, hts, B.notSynchronized, fun q => (name_of_methodNamed B.named B.method).1.trans q, hKK.1, hX, hb0, hB0, hL⟩
  rw [lg_entry_eq, ← am_mx M]
  obtain ⟨hmono, hS⟩ := H
  have hlen := am_entry_len hl
  have hLR := am_entry_LR (ad := ad) hl
  generalize (lg_sl (av.map (am_cv ad)) ++ List.replicate ((PG.1 M).2 - (lg_sl (av.map (am_cv ad))).length) Slot.unset).toArray = lsC at hLR ⊢
  have hRe : am_Re s D tA b B0 L xs ad (am_mi M).2.2.1 h.1.1 h.1.2 ad h s.heap [] (am_entry av (PG.1 M).2) lsC [] := by
    obtain ⟨a1, a2, a3, a4, a5, a6, a7⟩ := hRl
    exact ⟨a1, a2, ⟨a3, fun _ _ => rfl⟩, a4, a5, a6, a7, hLR, by rw [hlen, am_mx], am_entry_ok hav, fun v hv => by simp at hv, va_S.rf, Nat.le_refl _, Nat.le_refl _⟩
  have G := hS p e (headSpec (am_wsM M) (am_rm d (r.2.1.1 - h.1.1) (r.2.1.2 - h.1.2))).room s m _ below meth c (MQ below (am_QcM D tA b B0 L xs ad h r) (av.map (am_cv ad)).toArray s (r.2.1.1 - h.1.1) (r.2.1.2 - h.1.2) (fun q => B0 ≤ q)) ad h.1.1 h.1.2 C
    (show r.2.1.1 ≤ h.1.1 + (r.2.1.1 - h.1.1) by omega) (show r.2.1.2 ≤ h.1.2 + (r.2.1.2 - h.1.2) by omega) (Nat.le_refl _) (Nat.le_refl _) ?_ 0 ad _ s.heap [] (fun x => am_hd0) (am_ck_all M) hRe
  · rw [Nat.sub_self, Nat.sub_self] at G
    exact G
  · intro pc i z ad' ls lsC' H locs hdec hrok hrm hRe'
    have hlocks := B.notSynchronized
    have hq : ∀ t : State, t.heap = H → am_QcM D tA b B0 L xs ad h r (av.map (am_cv ad)).toArray s (.returned (r.1.map (am_cv ad'))) t := by
      intro t ht
      obtain ⟨a1, a2, a3, a4, a5, a6, a7, a8, a9, a10, a11, a12, a13, a14⟩ := hRe'
      refine ⟨ad', a3.2, rfl, by rw [ht]; exact ⟨a1, a2, a3.1, a4, a5, a6, a7⟩, fun v hv => a11 v (by rw [hv]; exact List.mem_cons_self), by rw [ht]; exact a12.1, fun q q1 q2 => by rw [ht]; exact a12.2.1 q q1 q2⟩
    have hlo : ∀ q ∈ locs, B0 ≤ q.base := hRe'.S.2.2
    obtain ⟨v, h2⟩ := r
    unfold am_rmt at hrm
    dsimp only at hrm
    split at hrm
    next x =>
      obtain ⟨ty, hr1, hn⟩ := am_narrow1 hrok hrm
      exact W.zret B.exec B.bytes (B.returns.trans hr1) hn (fun t ht _ => hq t ht) hlo hdec hlocks
    next x =>
      exact W.lret B.exec B.bytes (B.returns.trans (am_rtk2 hrok)) (fun t ht _ => hq t ht) hlo hdec hlocks
    next x =>
      obtain ⟨ty, hr1, hty⟩ := am_rtk3 hrok
      exact W.aret B.exec B.bytes (B.returns.trans hr1) hty (Or.inr ⟨_, rfl⟩) (fun t ht _ => hq t ht) hlo hdec hlocks
    next =>
      exact W.vret B.exec B.bytes (B.returns.trans (am_rtk0 hrok)) (fun t ht _ => hq t ht) hlo hdec hlocks
    next => exact hrm.elim
end AMC
