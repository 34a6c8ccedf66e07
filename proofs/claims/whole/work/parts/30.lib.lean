/-! what layer C stands on: answers of calls, reads of cells, loops, letters in longs -/
section LIB
variable {d y0 : Nat} {av : List am_V} {h h' : am_H}
theorem am_cI_of {v : Int} (e : am_call d y0 av h = some (some (.inl v), h')) : am_cI d y0 av h = some (v, h') := by unfold am_cI; rw [e]; rfl
theorem am_cL_of {v : Int} (e : am_call d y0 av h = some (some (.inr (.inl v)), h')) : am_cL d y0 av h = some (v, h') := by unfold am_cL; rw [e]; rfl
theorem am_cR_of {v : Nat} (e : am_call d y0 av h = some (some (.inr (.inr (some v))), h')) : am_cR d y0 av h = some (v, h') := by unfold am_cR; rw [e]; rfl
theorem am_cV_of (e : am_call d y0 av h = some (none, h')) : am_cV d y0 av h = some h' := by unfold am_cV; rw [e]; rfl
theorem rd_gI {a ci k : Nat} {fs : List am_V} {x : Int} (h1 : h.2 a = .inr (ci, fs)) (h2 : fs[k]? = some (.inl x)) : am_gI h a ci k = some x := by
  unfold am_gI; rw [h1]; simp only [if_true, h2]
theorem rd_gR {a ci k q : Nat} {fs : List am_V} (h1 : h.2 a = .inr (ci, fs)) (h2 : fs[k]? = some (.inr (.inr (some q)))) : am_gR h a ci k = some q := by
  unfold am_gR; rw [h1]; simp only [if_true, h2]
theorem rd_p {a ci k : Nat} {fs : List am_V} {v : am_V} (h1 : h.2 a = .inr (ci, fs)) (h2 : k < fs.length) : am_p h a ci k v = some (am_up h a (.inr (ci, fs.set k v))) := by
  unfold am_p; rw [h1]; simp only [true_and, if_pos h2]
theorem rd_O {a ci : Nat} {fs : List am_V} (h1 : h.2 a = .inr (ci, fs)) : am_isO h a ci = true := by
  unfold am_isO; rw [h1]; simp
theorem rd_lI {a n : Nat} {f : Nat → Int} {i : Int} (h1 : h.2 a = .inl (0, n, .inl f)) (h2 : 0 ≤ i) (h3 : i < n) : am_lI h a i = some (f i.toNat) := by
  unfold am_lI; rw [h1]; simp [h2, h3]
theorem rd_lIs {n : Nat} {f : Nat → Int} {i : Int} (h1 : h.2 0 = .inl (5, n, .inl f)) (h2 : 0 ≤ i) (h3 : i < n) : am_lI h 0 i = some (f i.toNat) := by
  unfold am_lI; rw [h1]; simp [h2, h3]
theorem rd_lB {a t n : Nat} {f : Nat → Int} {i : Int} (h1 : h.2 a = .inl (t, n, .inl f)) (ht : t = 2 ∨ t = 3) (h2 : 0 ≤ i) (h3 : i < n) : am_lB h a i = some (f i.toNat) := by
  unfold am_lB; rw [h1]; simp [ht, h2, h3]
theorem rd_lL {a n : Nat} {f : Nat → Int} {i : Int} (h1 : h.2 a = .inl (1, n, .inr (.inl f))) (h2 : 0 ≤ i) (h3 : i < n) : am_lL h a i = some (f i.toNat) := by
  unfold am_lL; rw [h1]; simp [h2, h3]
theorem rd_lR {a n : Nat} {f : Nat → Option Nat} {i : Int} (h1 : h.2 a = .inl (4, n, .inr (.inr f))) (h2 : 0 ≤ i) (h3 : i < n) : am_lR h a i = f i.toNat := by
  unfold am_lR; rw [h1]; simp [h2, h3]
theorem rd_sI {a n : Nat} {f : Nat → Int} {i x : Int} (h1 : h.2 a = .inl (0, n, .inl f)) (h2 : 0 ≤ i) (h3 : i < n) : am_sI h a i x = some (am_up h a (.inl (0, n, .inl (am_fu f i.toNat x)))) := by
  unfold am_sI; rw [h1]; simp [h2, h3]
theorem rd_sL {a n : Nat} {f : Nat → Int} {i x : Int} (h1 : h.2 a = .inl (1, n, .inr (.inl f))) (h2 : 0 ≤ i) (h3 : i < n) : am_sL h a i x = some (am_up h a (.inl (1, n, .inr (.inl (am_fu f i.toNat x))))) := by
  unfold am_sL; rw [h1]; simp [h2, h3]
theorem rd_sB2 {a n : Nat} {f : Nat → Int} {i x : Int} (h1 : h.2 a = .inl (2, n, .inl f)) (h2 : 0 ≤ i) (h3 : i < n) (h4 : -128 ≤ x) (h5 : x < 128) : am_sB h a i x = some (am_up h a (.inl (2, n, .inl (am_fu f i.toNat x)))) := by
  unfold am_sB; rw [h1]; simp [h2, h3, h4, h5]
theorem rd_sB3 {a n : Nat} {f : Nat → Int} {i x : Int} (h1 : h.2 a = .inl (3, n, .inl f)) (h2 : 0 ≤ i) (h3 : i < n) (h4 : 0 ≤ x) (h5 : x < 2) : am_sB h a i x = some (am_up h a (.inl (3, n, .inl (am_fu f i.toNat x)))) := by
  unfold am_sB; rw [h1]; simp [h2, h3, h4, h5]
theorem rd_ln {a t n : Nat} {c : am_C} (h1 : h.2 a = .inl (t, n, c)) (h2 : t ≠ 5) : am_ln h a = some (n : Int) := by
  unfold am_ln; rw [h1]; simp [h2]
theorem rd_cpI {a0 a n0 n1 : Nat} {f g : Nat → Int} {sp dp n : Int} (h0 : h.2 a0 = .inl (0, n0, .inl f)) (h1 : h.2 a = .inl (0, n1, .inl g)) (p1 : 0 ≤ sp) (p2 : 0 ≤ dp) (p3 : 0 ≤ n) (p4 : sp + n ≤ n0) (p5 : dp + n ≤ n1) :
    am_cp h a0 sp a dp n = some (am_up h a (.inl (0, n1, .inl (va_cpy f g sp.toNat dp.toNat n.toNat)))) := by
  unfold am_cp; rw [h0, h1]; simp [p1, p2, p3, p4, p5]
theorem rd_cpL {a0 a n0 n1 : Nat} {f g : Nat → Int} {sp dp n : Int} (h0 : h.2 a0 = .inl (1, n0, .inr (.inl f))) (h1 : h.2 a = .inl (1, n1, .inr (.inl g))) (p1 : 0 ≤ sp) (p2 : 0 ≤ dp) (p3 : 0 ≤ n) (p4 : sp + n ≤ n0) (p5 : dp + n ≤ n1) :
    am_cp h a0 sp a dp n = some (am_up h a (.inl (1, n1, .inr (.inl (va_cpy f g sp.toNat dp.toNat n.toNat))))) := by
  unfold am_cp; rw [h0, h1]; simp [p1, p2, p3, p4, p5]
theorem up_self {a : Nat} {e : am_E} : (am_up h a e).2 a = e := if_pos rfl
theorem up_ne {a b : Nat} {e : am_E} (hb : b ≠ a) : (am_up h a e).2 b = h.2 b := if_neg hb
theorem up_1 {a : Nat} {e : am_E} : (am_up h a e).1 = h.1 := rfl
/-- what lies outside a stretch of cells is as it was -/
def am_fr (lo hi : Nat) (h h' : am_H) : Prop := h'.1 = h.1 ∧ ∀ q, (q < lo ∨ hi ≤ q) → h'.2 q = h.2 q
theorem am_fr.rf {lo hi : Nat} : am_fr lo hi h h := ⟨rfl, fun _ _ => rfl⟩
theorem am_fr.tr {lo hi : Nat} {h2 : am_H} (a : am_fr lo hi h h') (b : am_fr lo hi h' h2) : am_fr lo hi h h2 := ⟨b.1.trans a.1, fun q hq => (b.2 q hq).trans (a.2 q hq)⟩
theorem am_fr.up {lo hi a : Nat} {e : am_E} (h1 : lo ≤ a) (h2 : a < hi) : am_fr lo hi h (am_up h a e) := ⟨rfl, fun q hq => up_ne (by omega)⟩
theorem am_fr.wide {lo hi lo' hi' : Nat} (a : am_fr lo hi h h') (h1 : lo' ≤ lo) (h2 : hi ≤ hi') : am_fr lo' hi' h h' := ⟨a.1, fun q hq => a.2 q (by omega)⟩
/-- a loop: as long as its state keeps I, it comes to an answer of which R holds, or goes on at a state with less -/
theorem am_loop {S : Type} {F : S → Option am_R} {I : S → Prop} {R : Option am_R → Prop} (w : S → Nat) (st : ∀ s, I s → R (F s) ∨ ∃ s', I s' ∧ w s' < w s ∧ F s = F s') : ∀ s, I s → R (F s) := by
  have key : ∀ (n : Nat) (s : S), w s < n → I s → R (F s) := by
    intro n
    induction n with
    | zero => intro s h; omega
    | succ n ih =>
      intro s h hI
      rcases st s hI with h1 | ⟨s', h1, h2, h3⟩
      · exact h1
      · rw [h3]
        exact ih s' (by omega) h1
  exact fun s hI => key (w s + 1) s (by omega) hI
end LIB
theorem lc_ge {x y : Int} : 0 ≤ am_lcmp x y ↔ y ≤ x := by unfold am_lcmp; split <;> (try split) <;> omega
theorem lc_lt {x y : Int} : am_lcmp x y < 0 ↔ x < y := by unfold am_lcmp; split <;> (try split) <;> omega
theorem lc_gt {x y : Int} : 0 < am_lcmp x y ↔ y < x := by unfold am_lcmp; split <;> (try split) <;> omega
theorem lc_le {x y : Int} : am_lcmp x y ≤ 0 ↔ x ≤ y := by unfold am_lcmp; split <;> (try split) <;> omega
theorem lc_eq {x y : Int} : am_lcmp x y = 0 ↔ x = y := by unfold am_lcmp; split <;> (try split) <;> omega
-- bits, for numbers that are not below 0
theorem bt_I {x : Int} (h0 : 0 ≤ x) (h1 : x < 2147483648) : (Int32.ofInt x).toBitVec.toNat = x.toNat := by
  rw [Int32.toBitVec_ofInt]
  obtain ⟨n, rfl⟩ := Int.eq_ofNat_of_zero_le h0
  simp [BitVec.toNat_ofInt]
  omega
theorem bt_L {x : Int} (h0 : 0 ≤ x) (h1 : x < 9223372036854775808) : (Int64.ofInt x).toBitVec.toNat = x.toNat := by
  rw [Int64.toBitVec_ofInt]
  obtain ⟨n, rfl⟩ := Int.eq_ofNat_of_zero_le h0
  simp [BitVec.toNat_ofInt]
  omega
theorem bt_and {x y : Int} (hx : 0 ≤ x) (hx1 : x < 2147483648) (hy : 0 ≤ y) (hy1 : y < 2147483648) : am_and x y = ((x.toNat &&& y.toNat : Nat) : Int) := by
  unfold am_and
  rw [← Int32.toInt_toBitVec, Int32.toBitVec_and]
  have h1 : ((Int32.ofInt x).toBitVec &&& (Int32.ofInt y).toBitVec).toNat = x.toNat &&& y.toNat := by rw [BitVec.toNat_and, bt_I hx hx1, bt_I hy hy1]
  have h2 : x.toNat &&& y.toNat ≤ x.toNat := Nat.and_le_left
  rw [BitVec.toInt_eq_toNat_of_lt (by rw [h1]; omega), h1]
theorem bt_lor {x y : Int} (hx : 0 ≤ x) (hx1 : x < 9223372036854775808) (hy : 0 ≤ y) (hy1 : y < 9223372036854775808) : am_lor x y = ((x.toNat ||| y.toNat : Nat) : Int) := by
  unfold am_lor
  rw [← Int64.toInt_toBitVec, Int64.toBitVec_or]
  have h1 : ((Int64.ofInt x).toBitVec ||| (Int64.ofInt y).toBitVec).toNat = x.toNat ||| y.toNat := by rw [BitVec.toNat_or, bt_L hx hx1, bt_L hy hy1]
  have h2 : x.toNat ||| y.toNat < 2 ^ 63 := Nat.or_lt_two_pow (by omega) (by omega)
  rw [BitVec.toInt_eq_toNat_of_lt (by rw [h1]; omega), h1]
