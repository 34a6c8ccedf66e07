/-! numbers of the small machine beside the real ones; cells and frames beside the real ones -/
theorem am_oI_w (x : Int) : Int32.ofInt (am_w x) = Int32.ofInt x := by
  apply Int32.toInt_inj.mp
  rw [Int32.toInt_ofInt, Int32.toInt_ofInt]
  show (x.bmod 4294967296).bmod 4294967296 = x.bmod 4294967296
  rw [Int.bmod_bmod]
theorem am_oL_w (x : Int) : Int64.ofInt (am_wl x) = Int64.ofInt x := by
  apply Int64.toInt_inj.mp
  rw [Int64.toInt_ofInt, Int64.toInt_ofInt]
  show (x.bmod 18446744073709551616).bmod 18446744073709551616 = x.bmod 18446744073709551616
  rw [Int.bmod_bmod]
theorem am_oI_to {x : Int} (h : am_inI x) : (Int32.ofInt x).toInt = x := Int32.toInt_ofInt_of_le h.1 h.2
theorem am_oL_to {x : Int} (h : am_inL x) : (Int64.ofInt x).toInt = x := Int64.toInt_ofInt_of_le h.1 h.2
theorem am_inI_of (a : Int32) : am_inI a.toInt := ⟨a.le_toInt, a.toInt_lt⟩
theorem am_inL_of (a : Int64) : am_inL a.toInt := ⟨a.le_toInt, a.toInt_lt⟩
theorem am_eqI {x y : Int} (hx : am_inI x) (hy : am_inI y) : Int32.ofInt x = Int32.ofInt y ↔ x = y := by
  rw [← Int32.toInt_inj, am_oI_to hx, am_oI_to hy]
theorem am_ltI {x y : Int} (hx : am_inI x) (hy : am_inI y) : Int32.ofInt x < Int32.ofInt y ↔ x < y := by
  rw [Int32.lt_iff_toInt_lt, am_oI_to hx, am_oI_to hy]
theorem am_leI {x y : Int} (hx : am_inI x) (hy : am_inI y) : Int32.ofInt x ≤ Int32.ofInt y ↔ x ≤ y := by
  rw [Int32.le_iff_toInt_le, am_oI_to hx, am_oI_to hy]
theorem am_eqL {x y : Int} (hx : am_inL x) (hy : am_inL y) : Int64.ofInt x = Int64.ofInt y ↔ x = y := by
  rw [← Int64.toInt_inj, am_oL_to hx, am_oL_to hy]
theorem am_ltL {x y : Int} (hx : am_inL x) (hy : am_inL y) : Int64.ofInt x < Int64.ofInt y ↔ x < y := by
  rw [Int64.lt_iff_toInt_lt, am_oL_to hx, am_oL_to hy]
theorem am_0I : am_inI 0 := ⟨by decide, by decide⟩
theorem am_ofI0 : Int32.ofInt 0 = 0 := by decide +kernel
theorem am_in_cmp {x y : Int} : am_inI (am_lcmp x y) := by
  unfold am_lcmp am_inI
  split
  · omega
  · split <;> omega
theorem am_cmp_eq {x y : Int} (hx : am_inL x) (hy : am_inL y) : lg_cmp (Int64.ofInt x) (Int64.ofInt y) = Int32.ofInt (am_lcmp x y) := by
  unfold lg_cmp am_lcmp
  by_cases h1 : y < x
  · rw [if_pos (show Int64.ofInt x > Int64.ofInt y from (am_ltL hy hx).mpr h1), if_neg (by omega), if_neg (by omega)]
    decide +kernel
  · rw [if_neg (show ¬ Int64.ofInt x > Int64.ofInt y from fun h => h1 ((am_ltL hy hx).mp h))]
    by_cases h2 : x = y
    · rw [if_pos ((am_eqL hx hy).mpr h2), if_neg (by omega), if_pos h2]
      decide +kernel
    · rw [if_neg (fun h => h2 ((am_eqL hx hy).mp h)), if_pos (by omega)]
      decide +kernel
theorem am_i2l_eq {x : Int} (hx : am_inI x) : (Int32.ofInt x).toInt64 = Int64.ofInt x := by
  apply Int64.toInt_inj.mp
  rw [Int32.toInt_toInt64, am_oI_to hx]
  have h := hx
  unfold am_inI at h
  exact (am_oL_to ⟨by omega, by omega⟩).symm
theorem am_I_L {x : Int} (h : am_inI x) : am_inL x := by
  unfold am_inI at h; unfold am_inL; omega
theorem am_clamp {x : Int} (h : am_inI x) : (Int32.ofInt x).toNatClampNeg = x.toNat := by
  show (Int32.ofInt x).toInt.toNat = _
  rw [am_oI_to h]
theorem am_vin {i : Int} {n : Nat} (h : am_inI i) (h0 : 0 ≤ i) (h1 : i < n) : vp_in (Int32.ofInt i) n := by
  unfold vp_in
  rintro (h2 | h2)
  · have := (am_ltI h am_0I).mp (by rw [am_ofI0]; exact h2)
    omega
  · rw [am_clamp h] at h2
    omega
theorem am_nn {x : Int} (h : am_inI x) (h0 : 0 ≤ x) : ¬ Int32.ofInt x < 0 := fun h2 => by
  have := (am_ltI h am_0I).mp (by rw [am_ofI0]; exact h2)
  omega
-- cells
theorem am_fu_cv {f : Nat → Int} {k : Nat} {x : Int} : (fun j => Int32.ofInt (am_fu f k x j)) = upd (fun j => Int32.ofInt (f j)) k (Int32.ofInt x) := by
  funext j
  unfold am_fu upd
  split <;> rfl
theorem am_fu_cvl {f : Nat → Int} {k : Nat} {x : Int} : (fun j => Int64.ofInt (am_fu f k x j)) = vp_updL (fun j => Int64.ofInt (f j)) k (Int64.ofInt x) := by
  funext j
  unfold am_fu vp_updL
  split <;> rfl
theorem am_fu_cvr {ad : Nat → Nat} {f : Nat → Option Nat} {k : Nat} {q : Nat} : (fun j => (am_fu f k (some q) j).map ad) = va_up (fun j => (f j).map ad) k (some (ad q)) := by
  funext j
  unfold am_fu va_up
  split <;> rfl
theorem am_cpy_cv {α β : Type} {g0 : α → β} {f g : Nat → α} {a b c : Nat} : (fun j => g0 (va_cpy f g a b c j)) = va_cpy (fun j => g0 (f j)) (fun j => g0 (g j)) a b c := by
  funext j
  unfold va_cpy
  split <;> rfl
-- what a frame of the small machine is in the real one
def am_tys (tA : Nat → ClassId) : List (ClassId × FieldType) := [(tA 0, .int), (tA 1, .long), (tA 2, .byte), (tA 3, .boolean), (tA 4, .object "NumberWords$Book")]
def am_Cx (p : Program) (s : State) (m : MethodId) (args : Array Value) (meth : Method) (c : Code) (D : va_G) (tA : Nat → ClassId) (b B0 L : Nat) (xs : Nat → Int32) (M : Nat) : Prop :=
  p.tables.exec = Jvm.exec ∧ c.code = (am_mi M).2.1 ∧ meth.sig.returnType = (am_mi M).2.2.2 ∧ c.maxLocals = (am_mi M).2.2.1 ∧ s.vm.findClass (am_mi M).1.cls = some m.cls ∧ (∀ w ∈ am_tb, w.before args s = true) ∧ meth.locks = false ∧ ((am_mi M).1.name = "<init>" → meth.name = "<init>") ∧ va_K D am_cl (am_tys tA) s ∧ va_X b L xs s s.heap ∧ b < B0 ∧ B0 ≤ s.heap.size ∧ L < 2 ^ 31
def am_Re (s : State) (D : va_G) (tA : Nat → ClassId) (b B0 L : Nat) (xs : Nat → Int32) (a0 : Nat → Nat) (n cE sE : Nat) (ad : Nat → Nat) (h : am_H) (H : Heap) (locs : List Loc) (ls : List am_V) (lsC : Array Slot) (st : List am_V) : Prop :=
  va_P D am_cl (am_ws tA ad h) H ∧ va_D (fun q : Nat => B0 ≤ q) (am_ws tA ad h) ∧ (ad 0 = b ∧ ∀ k, k < cE → ad k = a0 k) ∧ h.2 0 = .inl (5, L, .inl (fun j => (xs j).toInt)) ∧ 1 ≤ h.1.1 ∧ (∀ k, h.1.1 ≤ k → h.2 k = .inr (0, [])) ∧ (∀ k, am_okE h.1.1 (h.2 k)) ∧ am_LR ad ls lsC ∧ ls.length = n ∧ (∀ v ∈ ls, am_okV h.1.1 v) ∧ (∀ v ∈ st, am_okV h.1.1 v) ∧ va_S (fun q : Nat => B0 ≤ q) s.heap H locs ∧ cE ≤ h.1.1 ∧ sE ≤ h.1.2
section AMR
variable {s : State} {D : va_G} {tA : Nat → ClassId} {b B0 L : Nat} {xs : Nat → Int32} {a0 : Nat → Nat} {n cE sE : Nat} {ad : Nat → Nat} {h : am_H} {H : Heap} {locs : List Loc} {ls : List am_V} {lsC : Array Slot} {st : List am_V}
theorem am_Re.stk {st' : List am_V} (r : am_Re s D tA b B0 L xs a0 n cE sE ad h H locs ls lsC st) (h' : ∀ v ∈ st', am_okV h.1.1 v) : am_Re s D tA b B0 L xs a0 n cE sE ad h H locs ls lsC st' := by
  obtain ⟨a1, a2, a3, a4, a5, a6, a7, a8, a9, a10, a11, a12⟩ := r
  exact ⟨a1, a2, a3, a4, a5, a6, a7, a8, a9, a10, h', a12⟩
theorem am_Re.push {v : am_V} {st' : List am_V} (r : am_Re s D tA b B0 L xs a0 n cE sE ad h H locs ls lsC st) (hv : am_okV h.1.1 v) (hs : ∀ w ∈ st', w ∈ st) : am_Re s D tA b B0 L xs a0 n cE sE ad h H locs ls lsC (v :: st') := by
  refine r.stk fun w hw => ?_
  rcases List.mem_cons.mp hw with rfl | hw
  · exact hv
  · exact r.2.2.2.2.2.2.2.2.2.2.1 w (hs w hw)
theorem am_Re.pop {st' : List am_V} (r : am_Re s D tA b B0 L xs a0 n cE sE ad h H locs ls lsC st) (hs : ∀ w ∈ st', w ∈ st) : am_Re s D tA b B0 L xs a0 n cE sE ad h H locs ls lsC st' :=
  r.stk fun w hw => r.2.2.2.2.2.2.2.2.2.2.1 w (hs w hw)
theorem am_Re.okst (r : am_Re s D tA b B0 L xs a0 n cE sE ad h H locs ls lsC st) : ∀ v ∈ st, am_okV h.1.1 v := r.2.2.2.2.2.2.2.2.2.2.1
theorem am_Re.okls (r : am_Re s D tA b B0 L xs a0 n cE sE ad h H locs ls lsC st) : ∀ v ∈ ls, am_okV h.1.1 v := r.2.2.2.2.2.2.2.2.2.1
theorem am_Re.LR (r : am_Re s D tA b B0 L xs a0 n cE sE ad h H locs ls lsC st) : am_LR ad ls lsC := r.2.2.2.2.2.2.2.1
theorem am_Re.len (r : am_Re s D tA b B0 L xs a0 n cE sE ad h H locs ls lsC st) : ls.length = n := r.2.2.2.2.2.2.2.2.1
theorem am_Re.okE (r : am_Re s D tA b B0 L xs a0 n cE sE ad h H locs ls lsC st) (k : Nat) : am_okE h.1.1 (h.2 k) := r.2.2.2.2.2.2.1 k
theorem am_Re.S (r : am_Re s D tA b B0 L xs a0 n cE sE ad h H locs ls lsC st) : va_S (fun q : Nat => B0 ≤ q) s.heap H locs := r.2.2.2.2.2.2.2.2.2.2.2.1
theorem am_Re.locals {ls' : List am_V} {lsC' : Array Slot} {st' : List am_V} (r : am_Re s D tA b B0 L xs a0 n cE sE ad h H locs ls lsC st) (h1 : am_LR ad ls' lsC') (h2 : ls'.length = ls.length) (h3 : ∀ v ∈ ls', am_okV h.1.1 v) (h4 : ∀ v ∈ st', am_okV h.1.1 v) : am_Re s D tA b B0 L xs a0 n cE sE ad h H locs ls' lsC' st' := by
  obtain ⟨a1, a2, a3, a4, a5, a6, a7, a8, a9, a10, a11, a12⟩ := r
  exact ⟨a1, a2, a3, a4, a5, a6, a7, h1, h2.trans a9, h3, h4, a12⟩
/-- a cell that is no script and not empty is one of the world -/
theorem am_Re.inA (r : am_Re s D tA b B0 L xs a0 n cE sE ad h H locs ls lsC st) {a : Nat} (h1 : ∀ n c, h.2 a ≠ .inl (5, n, c)) (h2 : h.2 a ≠ .inr (0, [])) : a ≠ 0 ∧ a < h.1.1 := by
  constructor
  · rintro rfl
    exact h1 _ _ r.2.2.2.1
  · apply Nat.lt_of_not_le
    intro hle
    exact h2 (r.2.2.2.2.2.1 a hle)
theorem am_Re.up {a : Nat} {e : am_E} {H1 : Heap} {locs1 : List Loc} {st' : List am_V} (r : am_Re s D tA b B0 L xs a0 n cE sE ad h H locs ls lsC st) (h0 : a ≠ 0) (h1 : a < h.1.1) (he : am_okE h.1.1 e) (hst : ∀ w ∈ st', w ∈ st)
    (hP : va_P D am_cl ((am_ws tA ad h).set (a - 1) (ad a, am_cE tA ad e)) H1) (hD : va_D (fun q : Nat => B0 ≤ q) ((am_ws tA ad h).set (a - 1) (ad a, am_cE tA ad e))) (hS : va_S (fun q : Nat => B0 ≤ q) s.heap H1 locs1) :
    am_Re s D tA b B0 L xs a0 n cE sE ad (am_up h a e) H1 locs1 ls lsC st' := by
  obtain ⟨a1, a2, a3, a4, a5, a6, a7, a8, a9, a10, a11, a12, a13⟩ := r
  rw [← am_ws_up h0 h1] at hP hD
  refine ⟨hP, hD, a3, ?_, a5, fun k hk => ?_, fun k => ?_, a8, a9, a10, fun w hw => a11 w (hst w hw), hS, a13⟩
  · show (if 0 = a then e else h.2 0) = _
    rw [if_neg (Ne.symm h0)]
    exact a4
  · show (if k = a then e else h.2 k) = _
    have hk' : h.1.1 ≤ k := hk
    rw [if_neg (by omega)]
    exact a6 k hk
  · show am_okE h.1.1 (if k = a then e else h.2 k)
    split
    · exact he
    · exact a7 k
end AMR
