/-! loops that count -/
theorem am_for {F : Nat → Option am_R} {k n : Nat} (hk : k ≤ n) (st : ∀ i, k ≤ i → i < n → F i = F (i + 1)) : F k = F n := by
  obtain ⟨c, rfl⟩ : ∃ c, n = k + c := ⟨n - k, by omega⟩
  clear hk
  induction c with
  | zero => rfl
  | succ c ih => exact (ih (fun i h1 h2 => st i h1 (by omega))).trans (st (k + c) (by omega) (by omega))
theorem am_ford {F : Nat → Option am_R} {k n : Nat} (hk : k ≤ n) (st : ∀ i, k ≤ i → i < n → F (i + 1) = F i) : F n = F k := by
  obtain ⟨c, rfl⟩ : ∃ c, n = k + c := ⟨n - k, by omega⟩
  clear hk
  induction c with
  | zero => rfl
  | succ c ih => exact (st (k + c) (by omega) (by omega)).trans (ih (fun i h1 h2 => st i h1 (by omega)))
