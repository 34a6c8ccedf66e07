/-! words as lists of letters (1 for a), and the number that spells them, five bits a letter -/
def ec : Nat → List Int → Int
  | 0, _ => 0
  | _ + 1, [] => 0
  | k + 1, x :: w => x * 32 ^ k + ec k w
/-- the order of a book of words -/
def lx : List Int → List Int → Bool
  | [], [] => false
  | [], _ :: _ => true
  | _ :: _, [] => false
  | x :: w, y :: v => decide (x < y) || (decide (x = y) && lx w v)
def wl (w : List Int) : Prop := ∀ x ∈ w, 1 ≤ x ∧ x ≤ 26
theorem wl_tl {x : Int} {w : List Int} (h : wl (x :: w)) : wl w := fun y hy => h y (List.mem_cons_of_mem _ hy)
theorem wl_hd {x : Int} {w : List Int} (h : wl (x :: w)) : 1 ≤ x ∧ x ≤ 26 := h x List.mem_cons_self
theorem p32 (k : Nat) : (0 : Int) < 32 ^ k := Int.pow_pos (by decide)
theorem ec_bd : ∀ (k : Nat) (w : List Int), wl w → 0 ≤ ec k w ∧ ec k w < 32 ^ k
  | 0, w, _ => by simp [ec]
  | k + 1, [], _ => by
    have := p32 (k + 1)
    simp only [ec]
    omega
  | k + 1, x :: w, h => by
    obtain ⟨h1, h2⟩ := ec_bd k w (wl_tl h)
    obtain ⟨h3, h4⟩ := wl_hd h
    have hp := p32 k
    simp only [ec, Int.pow_succ]
    constructor
    · have : 0 ≤ x * 32 ^ k := Int.mul_nonneg (by omega) (by omega)
      omega
    · have : x * 32 ^ k ≤ 26 * 32 ^ k := Int.mul_le_mul_of_nonneg_right h4 (by omega)
      omega
theorem ec_pos : ∀ (k : Nat) (w : List Int), wl w → w ≠ [] → 0 < k → 0 < ec k w
  | 0, _, _, _, h => by omega
  | k + 1, [], _, h, _ => absurd rfl h
  | k + 1, x :: w, h, _, _ => by
    obtain ⟨h1, h2⟩ := ec_bd k w (wl_tl h)
    obtain ⟨h3, h4⟩ := wl_hd h
    have hp := p32 k
    simp only [ec]
    have : 1 * 32 ^ k ≤ x * 32 ^ k := Int.mul_le_mul_of_nonneg_right h3 (by omega)
    omega
theorem ec_nil (k : Nat) : ec k [] = 0 := by cases k <;> rfl
theorem ec_lt : ∀ (k : Nat) (w v : List Int), wl w → wl v → w.length ≤ k → v.length ≤ k → (ec k w < ec k v ↔ lx w v = true)
  | 0, w, v, _, _, hw, hv => by
    have h1 : w = [] := List.eq_nil_of_length_eq_zero (by omega)
    have h2 : v = [] := List.eq_nil_of_length_eq_zero (by omega)
    subst h1 h2
    simp [ec, lx]
  | k + 1, [], [], _, _, _, _ => by simp [ec, lx]
  | k + 1, [], y :: v, _, h, _, _ => by
    have := ec_pos (k + 1) (y :: v) h (by simp) (by omega)
    rw [ec_nil]
    simp [lx, this]
  | k + 1, x :: w, [], h, _, _, _ => by
    have := ec_pos (k + 1) (x :: w) h (by simp) (by omega)
    rw [ec_nil]
    simp [lx]
    omega
  | k + 1, x :: w, y :: v, hw, hv, lw, lv => by
    have ih := ec_lt k w v (wl_tl hw) (wl_tl hv) (by simpa using lw) (by simpa using lv)
    obtain ⟨a1, a2⟩ := ec_bd k w (wl_tl hw)
    obtain ⟨b1, b2⟩ := ec_bd k v (wl_tl hv)
    have hp := p32 k
    simp only [ec, lx, Bool.or_eq_true, Bool.and_eq_true, decide_eq_true_eq, ← ih]
    rcases Int.lt_trichotomy x y with h | h | h
    · have : (x + 1) * 32 ^ k ≤ y * 32 ^ k := Int.mul_le_mul_of_nonneg_right (by omega) (by omega)
      rw [Int.add_mul] at this
      constructor
      · intro _; exact Or.inl h
      · intro _; omega
    · subst h
      constructor
      · intro q; exact Or.inr ⟨rfl, by omega⟩
      · rintro (q | ⟨-, q⟩)
        · omega
        · omega
    · have : (y + 1) * 32 ^ k ≤ x * 32 ^ k := Int.mul_le_mul_of_nonneg_right (by omega) (by omega)
      rw [Int.add_mul] at this
      constructor
      · intro q; omega
      · rintro (q | ⟨q, -⟩) <;> omega
theorem lx_tri : ∀ (w v : List Int), lx w v = true ∨ w = v ∨ lx v w = true
  | [], [] => Or.inr (Or.inl rfl)
  | [], y :: v => Or.inl rfl
  | x :: w, [] => Or.inr (Or.inr rfl)
  | x :: w, y :: v => by
    simp only [lx, Bool.or_eq_true, Bool.and_eq_true, decide_eq_true_eq]
    rcases Int.lt_trichotomy x y with h | h | h
    · exact Or.inl (Or.inl h)
    · subst h
      rcases lx_tri w v with g | g | g
      · exact Or.inl (Or.inr ⟨rfl, g⟩)
      · exact Or.inr (Or.inl (by rw [g]))
      · exact Or.inr (Or.inr (Or.inr ⟨rfl, g⟩))
    · exact Or.inr (Or.inr (Or.inl h))
theorem ec_inj {k : Nat} {w v : List Int} (hw : wl w) (hv : wl v) (lw : w.length ≤ k) (lv : v.length ≤ k) (h : ec k w = ec k v) : w = v := by
  rcases lx_tri w v with g | g | g
  · have := (ec_lt k w v hw hv lw lv).mpr g; omega
  · exact g
  · have := (ec_lt k v w hv hw lv lw).mpr g; omega
/-- a letter out of the number: 0 behind the last -/
theorem ec_at : ∀ (k : Nat) (w : List Int) (i : Nat), wl w → i < k → ec k w / 32 ^ (k - 1 - i) % 32 = w.getD i 0
  | 0, w, i, _, h => by omega
  | k + 1, [], i, _, h => by simp [ec]
  | k + 1, x :: w, 0, hw, _ => by
    obtain ⟨a1, a2⟩ := ec_bd k w (wl_tl hw)
    obtain ⟨h3, h4⟩ := wl_hd hw
    have hp := p32 k
    simp only [ec, List.getD_cons_zero, Nat.add_sub_cancel, Nat.sub_zero]
    rw [Int.add_comm, Int.add_mul_ediv_right _ _ (by omega), Int.ediv_eq_zero_of_lt a1 a2]
    omega
  | k + 1, x :: w, i + 1, hw, hi => by
    have ih := ec_at k w i (wl_tl hw) (by omega)
    simp only [ec, List.getD_cons_succ, Nat.add_sub_cancel]
    rw [← ih]
    have e : (32 : Int) ^ k = 32 ^ (i + 1) * 32 ^ (k - (i + 1)) := by rw [← Int.pow_add]; congr 1; omega
    have e2 : k - 1 - i = k - (i + 1) := by omega
    have hp := p32 (k - (i + 1))
    rw [e2, e, ← Int.mul_assoc, Int.add_comm, Int.add_mul_ediv_right _ _ (by omega), Int.pow_succ, ← Int.mul_assoc, Int.add_mul_emod_self_right]
/-- a letter more -/
theorem ec_app : ∀ (k : Nat) (w : List Int) (x : Int), w.length < k → ec k (w ++ [x]) = ec k w + x * 32 ^ (k - 1 - w.length)
  | 0, w, x, h => by omega
  | k + 1, [], x, _ => by simp [ec, ec_nil]
  | k + 1, y :: w, x, h => by
    have ih := ec_app k w x (by simpa using h)
    simp only [List.cons_append, ec, ih, List.length_cons, Nat.add_sub_cancel]
    rw [show k - (w.length + 1) = k - 1 - w.length by omega]
    omega
/-- what stands in the bits below the letters that there are -/
theorem ec_mul : ∀ (k : Nat) (w : List Int), w.length ≤ k → ec k w % 32 ^ (k - w.length) = 0
  | 0, w, h => by simp [ec]
  | k + 1, [], h => by simp [ec]
  | k + 1, y :: w, h => by
    have ih := ec_mul k w (by simpa using h)
    simp only [ec, List.length_cons]
    have hl : w.length ≤ k := by simpa using h
    rw [show k + 1 - (w.length + 1) = k - w.length by omega]
    have e : (32 : Int) ^ k = 32 ^ w.length * 32 ^ (k - w.length) := by rw [← Int.pow_add]; congr 1; omega
    rw [e, ← Int.mul_assoc, Int.add_comm, Int.add_mul_emod_self_right]
    exact ih
