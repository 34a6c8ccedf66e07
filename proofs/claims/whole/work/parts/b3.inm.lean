/-! what is made: the model -/
theorem fld_md (a : Nat) (S : Nat → Nat → Int) (hS : S = S0) : (.inr (10, fldF mdC (am_df 10) (a + 1)) : am_E) = mdO a S := by
  subst hS
  show (.inr (10, fldF mdC am_df10 (a + 1)) : am_E) = mdO a S0
  simp only [fldF, mdC, am_df10, List.set_cons_zero, List.set_cons_succ, mdO, S0, Nat.add_assoc, Nat.reduceAdd]
set_option maxHeartbeats 4000000 in
theorem md_run (a : Nat) (h : am_H) (d : Nat) {r : Option am_R} (e : iniK a 10 (fun h => some (none, h)) mdC h = r) : am_call d N_md_init [.inr (.inr (some (a)))] h = r := by
  rw [en_md_init, B_md_init_0]
  exact e
section INI
variable {h : am_H} {a c : Nat}
theorem i_md (ho : h.2 a = .inr (10, am_df 10)) (h1 : h.1 = (a + 1, c)) (d : Nat) : ∃ h', am_cV d N_md_init [.inr (.inr (some (a)))] h = some h' ∧ h'.1 = (a + 35, c + szC mdC) ∧ nfr a (a + 35) h h' ∧ MH a h' S0 = h' := by
  obtain ⟨h', r1, r2, r3, r4, r5⟩ := iniK_ok a 10 (fun h => some (none, h)) mdC h (am_df 10) (a + 1) c ho h1 (by omega) (by decide)
  refine ⟨h', am_cV_of ?_, r2, fun q hq => r5 q (by omega) (by show q < a + 1 ∨ a + 1 + 34 ≤ q; omega), xH_mk (O := mdO a) (C := mdC) (q := a) (r3.trans (fld_md a S0 rfl)) (fun i hi => ?_)⟩
  · exact md_run a h d r1
  · have := r4 i hi
    rw [na_mdE (by decide) hi] at this
    rw [show a + (i + 1) = a + 1 + i by omega]
    exact this
end INI
