/-! the law's walk out of one run of the small machine (by wip/whole/top.py) -/
def am_ix : List Nat := [1046, 2007, 1074, 2023, 1096, 1117, 1186, 1024, 1204, 1016, 4190]
theorem am_inst_ok : (List.range 11).all (fun ci => am_wd (am_ix.getD ci 0) (.instantiable (am_Cn ci) (am_Nf ci))) = true := by decide +kernel
theorem am_inst {ci : Nat} (h : ci < 11) : Jvm.Cond.instantiable (am_Cn ci) (am_Nf ci) ∈ am_tb := am_wd_mem (List.all_eq_true.mp am_inst_ok ci (List.mem_range.mpr h))
theorem am_arr_int : Jvm.Cond.arrayClass .int ∈ am_tb := am_wd_mem (i := 1044) (by decide +kernel)
theorem am_arr_long : Jvm.Cond.arrayClass .long ∈ am_tb := am_wd_mem (i := 1071) (by decide +kernel)
theorem am_arr_byte : Jvm.Cond.arrayClass .byte ∈ am_tb := am_wd_mem (i := 5100) (by decide +kernel)
theorem am_arr_boolean : Jvm.Cond.arrayClass .boolean ∈ am_tb := am_wd_mem (i := 2038) (by decide +kernel)
def am_h0 (L : Nat) (xs : Nat → Int32) : am_H := ((1, 0), fun k => if k = 0 then .inl (5, L, .inl (fun j => (xs j).toInt)) else .inr (0, []))
theorem am_arrK {s : State} {args : Array Value} {ty : FieldType} (h : (Jvm.Cond.arrayClass ty).before args s = true) : ∃ cA : ClassId, ArrOfT s cA ty ∧ s.vm.findClass ("[" ++ ty.toString) = some cA := by
  obtain ⟨cB, kB, comp, hcB, hkB, hkind⟩ := Cond.arrayClass_spec h
  exact ⟨cB, fun n z => ⟨fun k h => (by cases h), kB, hkB, comp, hkind⟩, hcB⟩
theorem am_K0 {s : State} {args : Array Value} (hts : ∀ w ∈ am_tb, w.before args s = true) : ∃ (D : va_G) (tA : Nat → ClassId), va_K D am_cl (am_tys tA) s := by
  have hc : ∀ ci, ∃ (cC : ClassId) (iS : Nat → Nat), ci < 11 → u_Kn s (am_Cn ci) (am_T ci) (am_Nf ci) cC iS := by
    intro ci
    by_cases h : ci < 11
    · obtain ⟨c0, i0, h0⟩ := u_known (n := am_Nf ci) hts (am_in h) (hts _ (am_inst h))
      exact ⟨c0, i0, fun _ => h0⟩
    · exact ⟨0, fun _ => 0, fun q => absurd q h⟩
  obtain ⟨c0, x0, y0⟩ := am_arrK (hts _ am_arr_int)
  obtain ⟨c1, x1, y1⟩ := am_arrK (hts _ am_arr_long)
  obtain ⟨c2, x2, y2⟩ := am_arrK (hts _ am_arr_byte)
  obtain ⟨c3, x3, y3⟩ := am_arrK (hts _ am_arr_boolean)
  obtain ⟨comp, c4, k4, f1, f2, f3, f4, f5⟩ := Cond.arrayOver_spec (hts _ am_AOin)
  refine ⟨(fun ci => Classical.choose (hc ci), fun ci => Classical.choose (Classical.choose_spec (hc ci))), fun t => if t = 0 then c0 else if t = 1 then c1 else if t = 2 then c2 else if t = 3 then c3 else c4, fun ci q hq => ?_, fun k q hk => ?_⟩
  · have hlt : ci < 11 := (List.getElem?_eq_some_iff.mp hq).1
    have h0 := Classical.choose_spec (Classical.choose_spec (hc ci)) hlt
    rw [am_cl_at hlt] at hq
    cases hq
    exact h0
  · have hlt : k < 5 := (List.getElem?_eq_some_iff.mp hk).1
    rcases (show k = 0 ∨ k = 1 ∨ k = 2 ∨ k = 3 ∨ k = 4 by omega) with rfl | rfl | rfl | rfl | rfl
    · cases hk; exact ⟨x0, y0⟩
    · cases hk; exact ⟨x1, y1⟩
    · cases hk; exact ⟨x2, y2⟩
    · cases hk; exact ⟨x3, y3⟩
    · cases hk; exact ⟨fun n z => ⟨fun k h => (by cases h), k4, f3, comp, f4⟩, k4, comp, f3, f4, f1, f5⟩
set_option maxHeartbeats 4000000 in
set_option maxRecDepth 100000 in
theorem am_top {p : Program} {e : Env} {s : State} {m : MethodId} {below : List Frame} {meth : Method} {c : Code} (l : Launch) {b L : Nat} {xs : Nat → Int32} (hL : L ≤ 3072) (C0 : lw_At p s m meth c b L xs) {r : am_R} {n : Nat}
    (hr : am_run PG n (30, N_law_law, T_law_law_0, am_entry [.inr (.inr (some 0))] 4, [], am_h0 L xs) = some r) (h1 : r.1 = some (.inl 1)) (h2 : r.2.1.1 ≤ 600001) (h3 : r.2.1.2 ≤ 7302250) :
    W p l e room_1 s m #[Value.ref b] below meth c s.heap [] 0 0 (lw_Z below #[Value.ref b] s) (entryFrame m ([Value.ref b] : List Value).toArray 4) := by
  obtain ⟨hx, hb, hr0, hml, hown, hts, hX, hbl, hlocks, hgv⟩ := id C0
  have hts' : ∀ w ∈ am_tb, w.before #[Value.ref b] s = true := fun w hw => hts w (List.mem_filter.mp hw).1
  obtain ⟨D, tA, hK⟩ := am_K0 hts'
  have C : am_Cx p s m #[Value.ref b] meth c D tA b s.heap.size L xs N_law_law := ⟨hx, hb, hr0, hml, hown, hts', hlocks, fun q => absurd q (by decide +kernel), hK, hX, hbl, Nat.le_refl _, by omega⟩
  obtain ⟨-, S⟩ := am_sim (l := l) (D := D) (tA := tA) (b := b) (B0 := s.heap.size) (L := L) (xs := xs) _ _ _ _ _ _ _ _ hr
  rw [lg_entry_eq]
  have hLR := am_entry_LR (ad := fun _ => b) (args := [.inr (.inr (some 0))]) (n := 4) (by decide)
  change am_LR _ _ ((lg_sl [Value.ref b] ++ List.replicate (4 - (lg_sl [Value.ref b]).length) Slot.unset).toArray) at hLR
  generalize (lg_sl [Value.ref b] ++ List.replicate (4 - (lg_sl [Value.ref b]).length) Slot.unset).toArray = lsC at hLR ⊢
  have hok : ∀ k, am_okE 1 ((am_h0 L xs).2 k) := by
    intro k
    show am_okE 1 (if k = 0 then _ else _)
    split
    · exact ⟨by omega, fun j => am_inI_of _, Or.inr (Or.inr (Or.inr rfl))⟩
    · intro v hv
      simp at hv
  have hRe : am_Re s D tA b s.heap.size L xs (fun _ => b) (am_mi N_law_law).2.2.1 1 0 (fun _ => b) (am_h0 L xs) s.heap [] (am_entry [.inr (.inr (some 0))] 4) lsC [] := by
    refine ⟨fun k q hq => ?_, ⟨fun i j p q hp => ?_, fun k q hq => ?_⟩, ⟨rfl, fun _ _ => rfl⟩, rfl, Nat.le_refl _, fun k hk => ?_, hok, hLR, rfl, am_entry_ok (fun v hv => ?_), fun v hv => ?_, va_S.rf, Nat.le_refl _, Nat.le_refl _⟩
    · simp [am_ws, am_h0] at hq
    · simp [am_ws, am_h0] at hp
    · simp [am_ws, am_h0] at hq
    · show (if k = 0 then _ else _) = _
      have hk' : 1 ≤ k := hk
      rw [if_neg (by omega)]
    · rcases List.mem_cons.mp hv with rfl | hv
      · show (0 : Nat) < 1; omega
      · simp at hv
    · simp at hv
  have G := S p e room_1 s m #[Value.ref b] below meth c (lw_Z below #[Value.ref b] s) (fun _ => b) 1 0 C (by show r.2.1.1 ≤ 1 + 600000; omega) (by show r.2.1.2 ≤ 0 + 7302250; omega) (Nat.le_of_ble_eq_true rfl) (Nat.le_of_ble_eq_true rfl) ?_ 0 (fun _ => b) lsC s.heap [] (fun x hx => am_hd0 (M := N_law_law) hx) (am_ck_all N_law_law) hRe
  · exact G
  · intro pc i z ad' ls lsC' H locs hdec hrok hrm hRe'
    obtain ⟨v, h'⟩ := r
    dsimp only at h1 h2 h3
    subst h1
    unfold am_rmt at hrm
    dsimp only at hrm
    split at hrm
    next x q =>
      cases q
      refine va_forget (fun q hq => hRe'.S.2.2 q hq) ?_
      refine W.widen (k := 600000) (n := 7302250) (by show h'.1.1 - 1 ≤ _; omega) (by show h'.1.2 - 0 ≤ _; omega) ?_
      have e1 : Int32.ofInt 1 = 1 := by decide +kernel
      have := lw_ret (p := p) (l := l) (e := e) (s := s) (m := m) (below := below) (meth := meth) (c := c) (b := b) hx hb hr0 hlocks (pc := pc) (H := H) (ls := lsC') hdec
      rw [← e1] at this
      exact this
    next q => cases q
    next q => cases q
    next q => cases q
    next => exact hrm.elim
