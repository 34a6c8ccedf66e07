/-! the class' machine: the least NUMBER and how many nodes there are from each node on -/
section MA
variable {q b : Nat} {g : am_H} {S : Nat → Nat → Int} {ws : List wd}
/-- the words of a node of which the nodes from c on have told -/
def dm (ws : List wd) (c k : Nat) (x : wd) : Prop := pn ws k <+: x.1 ∧ (x.1 = pn ws k ∨ ∃ d ∈ kd ws k, c ≤ d ∧ pn ws d <+: x.1)
def mnP (ws : List wd) (c k : Nat) (m : Int) : Prop := (∀ x ∈ ws, dm ws c k x → m ≤ x.2) ∧ ((∃ x ∈ ws, dm ws c k x ∧ x.2 = m) ∨ ((∀ x ∈ ws, ¬ dm ws c k x) ∧ m = 999999))
def spP (ws : List wd) (c k : Nat) (n : Int) : Prop := ∃ i, i ≤ (kd ws k).length ∧ (∀ j, j < i → nx ws k j < c) ∧ (i < (kd ws k).length → c ≤ nx ws k i) ∧ n = 1 + ((k + sz ws (pn ws k) : Nat) : Int) - (nx ws k i : Int)
def meP (S : Nat → Nat → Int) (ws : List wd) (c : Nat) : Prop := ∀ k, k < nN ws → spP ws c k (S 5 k) ∧ mnP ws c k (S 4 k)
theorem nx_bd (hs : so ws) {k i : Nat} (hk : k < nN ws) : k < nx ws k i ∧ nx ws k i ≤ k + sz ws (pn ws k) := by
  by_cases c : i < (kd ws k).length
  · have := nx_lt hs hk c
    omega
  · rw [nx_end (by omega)]
    have := sz_pos hs (pn_bg hk)
    omega
theorem szk_le (hs : so ws) {k : Nat} (hk : k < nN ws) : k + sz ws (pn ws k) ≤ nN ws := by
  have h := sz_le (p := pn ws k) hs
  rw [ix_pn hs hk] at h
  exact h
theorem spP_bd (hok : ok ws) {c k : Nat} {n : Int} (hk : k < nN ws) (h : spP ws c k n) : 1 ≤ n ∧ n ≤ 1002 := by
  obtain ⟨i, h1, h2, h3, h4⟩ := h
  have h5 := nx_bd (i := i) hok.2.1 hk
  have h6 := szk_le hok.2.1 hk
  have h7 : nN ws ≤ 1001 := ND_len hok
  omega
theorem spP_all (hs : so ws) {c k : Nat} {n : Int} (hk : k < nN ws) (hc : c ≤ k + 1) (h : spP ws c k n) : n = (sz ws (pn ws k) : Int) := by
  obtain ⟨i, h1, h2, h3, h4⟩ := h
  have h5 := nx_0 hs hk
  have hi : i = 0 := by
    rcases Nat.eq_zero_or_pos i with h | h
    · exact h
    · have := h2 0 h
      omega
  subst hi
  omega
theorem dm_all (hs : so ws) {c k : Nat} {x : wd} (hk : k < nN ws) (hc : c ≤ k + 1) (hx : x ∈ ws) : dm ws c k x ↔ pn ws k <+: x.1 := by
  constructor
  · exact fun h => h.1
  · intro h
    refine ⟨h, ?_⟩
    obtain ⟨t, ht⟩ := h
    cases t with
    | nil => left; rw [← ht, List.append_nil]
    | cons y t =>
      right
      have hb : bg ws (pn ws k ++ [y]) := Or.inr ⟨x, hx, ⟨t, by rw [← ht]; simp⟩⟩
      have hm := (kd_mem hs hk).mpr ⟨y, hb, rfl⟩
      have h1 := (kd_in hs hk hm).1
      refine ⟨_, hm, by omega, ?_⟩
      rw [pn_ix hs hb]
      exact ⟨t, by rw [← ht]; simp⟩
theorem mnP_bd (hk : ∀ p ∈ ws, wk p) {c k : Nat} {m : Int} (h : mnP ws c k m) : 0 ≤ m ∧ m ≤ 999999 := by
  rcases h.2 with ⟨x, h1, _, h3⟩ | ⟨_, h2⟩
  · have := (hk x h1).2.2.2
    omega
  · omega
theorem mnP_all (hok : ok ws) (hn : ws ≠ []) {c k : Nat} {m : Int} (hk : k < nN ws) (hc : c ≤ k + 1) (h : mnP ws c k m) : m = lst ws (pn ws k) := by
  refine (lst_eq hok.1 ⟨fun x hx => ?_, ?_⟩).symm
  · obtain ⟨h1, h2⟩ := sb_mem.mp hx
    exact h.1 x h1 ((dm_all hok.2.1 hk hc h1).mpr h2)
  · rcases h.2 with ⟨x, h1, h2, h3⟩ | ⟨h1, _⟩
    · exact ⟨x, sb_mem.mpr ⟨h1, h2.1⟩, h3⟩
    · exfalso
      have hp := sb_pos (pn_bg hk) hn
      obtain ⟨x, hx⟩ := List.exists_mem_of_length_pos hp
      obtain ⟨h3, h4⟩ := sb_mem.mp hx
      exact h1 x h3 ((dm_all hok.2.1 hk hc h3).mpr h4)
theorem spP_ne (hs : so ws) {n k : Nat} {v : Int} (hk : k < nN ws) (hp : k ≠ pr ws n) (h : spP ws (n + 1) k v) : spP ws n k v := by
  obtain ⟨i, h1, h2, h3, h4⟩ := h
  refine ⟨i, h1, fun j hj => ?_, fun hi => by have := h3 hi; omega, h4⟩
  have h5 := h2 j hj
  have h6 := (nx_in (ws := ws) (k := k) (i := j) (by omega)).1
  rcases Nat.lt_or_ge (nx ws k j) n with h | h
  · exact h
  · exfalso
    have e : nx ws k j = n := by omega
    rw [e] at h6
    exact hp (kd_pr h6).1.symm
theorem spP_eq (hs : so ws) {n : Nat} {v : Int} (hn : n < nN ws) (h0 : n ≠ 0) (h : spP ws (n + 1) (pr ws n) v) : spP ws n (pr ws n) (v + (sz ws (pn ws n) : Int)) := by
  obtain ⟨i, h1, h2, h3, h4⟩ := h
  obtain ⟨hlt, hm⟩ := pr_in hs hn h0
  have hk : pr ws n < nN ws := by omega
  obtain ⟨i0, hi0⟩ := List.getElem?_of_mem hm
  have hl0 := (List.getElem?_eq_some_iff.mp hi0).1
  have e0 : nx ws (pr ws n) i0 = n := by
    have := (nx_in (ws := ws) (k := pr ws n) hl0).2
    rw [hi0] at this
    injection this with this
    exact this.symm
  have mono : ∀ {i j : Nat}, i < (kd ws (pr ws n)).length → j < (kd ws (pr ws n)).length → (nx ws (pr ws n) i < nx ws (pr ws n) j ↔ i < j) := fun hi hj => kd_idx (nx_in hi).2 (nx_in hj).2
  have hi : i0 < i := by
    rcases Nat.lt_or_ge i0 i with g | g
    · exact g
    · exfalso
      have g1 := h3 (by omega)
      rcases Nat.eq_or_lt_of_le g with g2 | g2
      · rw [g2, e0] at g1; omega
      · have := (mono (i := i) (j := i0) (by omega) hl0).mpr g2
        omega
  have hi2 : i = i0 + 1 := by
    rcases Nat.lt_or_ge (i0 + 1) i with g | g
    · exfalso
      have g1 := h2 (i0 + 1) g
      have g2 := (mono (i := i0) (j := i0 + 1) hl0 (by omega)).mpr (by omega)
      omega
    · omega
  subst hi2
  have hx := nx_s hs hk hl0
  rw [e0] at hx
  refine ⟨i0, by omega, fun j hj => ?_, fun _ => by omega, ?_⟩
  · have := (mono (i := j) (j := i0) (by omega) hl0).mpr hj
    omega
  · rw [e0, h4, ← hx]
    omega
theorem dm_ne {n k : Nat} {x : wd} (hp : k ≠ pr ws n) : dm ws n k x ↔ dm ws (n + 1) k x := by
  constructor
  · rintro ⟨h1, h2⟩
    refine ⟨h1, h2.imp id ?_⟩
    rintro ⟨d, h3, h4, h5⟩
    refine ⟨d, h3, ?_, h5⟩
    rcases Nat.eq_or_lt_of_le h4 with h | h
    · exfalso
      subst h
      exact hp (kd_pr h3).1.symm
    · omega
  · rintro ⟨h1, h2⟩
    refine ⟨h1, h2.imp id ?_⟩
    rintro ⟨d, h3, h4, h5⟩
    exact ⟨d, h3, by omega, h5⟩
theorem dm_eq (hs : so ws) {n : Nat} {x : wd} (hn : n < nN ws) (h0 : n ≠ 0) : dm ws n (pr ws n) x ↔ dm ws (n + 1) (pr ws n) x ∨ pn ws n <+: x.1 := by
  obtain ⟨hlt, hm⟩ := pr_in hs hn h0
  constructor
  · rintro ⟨h1, h2⟩
    rcases h2 with h2 | ⟨d, h3, h4, h5⟩
    · exact Or.inl ⟨h1, Or.inl h2⟩
    · rcases Nat.eq_or_lt_of_le h4 with h | h
      · right; rw [h]; exact h5
      · exact Or.inl ⟨h1, Or.inr ⟨d, h3, by omega, h5⟩⟩
  · rintro (⟨h1, h2⟩ | h)
    · refine ⟨h1, h2.imp id ?_⟩
      rintro ⟨d, h3, h4, h5⟩
      exact ⟨d, h3, by omega, h5⟩
    · obtain ⟨e, _, _⟩ := kd_ll hs (show pr ws n < nN ws by omega) hm
      refine ⟨?_, Or.inr ⟨n, hm, Nat.le_refl _, h⟩⟩
      rw [e] at h
      exact (List.prefix_append _ _).trans h
theorem mnP_ne {n k : Nat} {v : Int} (hp : k ≠ pr ws n) (h : mnP ws (n + 1) k v) : mnP ws n k v := by
  refine ⟨fun x hx hd => h.1 x hx ((dm_ne hp).mp hd), ?_⟩
  rcases h.2 with ⟨x, h1, h2, h3⟩ | ⟨h1, h2⟩
  · exact Or.inl ⟨x, h1, (dm_ne hp).mpr h2, h3⟩
  · exact Or.inr ⟨fun x hx hd => h1 x hx ((dm_ne hp).mp hd), h2⟩
theorem mnP_eq (hs : so ws) (hkk : ∀ p ∈ ws, wk p) {n : Nat} {v m : Int} (hn : n < nN ws) (h0 : n ≠ 0) (h : mnP ws (n + 1) (pr ws n) v) (hm : mnP ws (n + 1) n m) : mnP ws n (pr ws n) (am_min v m) := by
  have bv := mnP_bd hkk h
  have bm := mnP_bd hkk hm
  have ha : ∀ x ∈ ws, (dm ws (n + 1) n x ↔ pn ws n <+: x.1) := fun x hx => dm_all hs hn (Nat.le_refl _) hx
  have e : (am_min v m = v ∧ v ≤ m) ∨ (am_min v m = m ∧ m ≤ v) := by unfold am_min; split <;> omega
  constructor
  · intro x hx hd
    rcases (dm_eq hs hn h0).mp hd with g | g
    · have := h.1 x hx g; omega
    · have := hm.1 x hx ((ha x hx).mpr g); omega
  · rcases e with ⟨e1, e2⟩ | ⟨e1, e2⟩
    · rw [e1]
      rcases h.2 with ⟨x, h1, h2, h3⟩ | ⟨h1, h2⟩
      · exact Or.inl ⟨x, h1, (dm_eq hs hn h0).mpr (Or.inl h2), h3⟩
      · rcases hm.2 with ⟨x, g1, g2, g3⟩ | ⟨g1, g2⟩
        · exact Or.inl ⟨x, g1, (dm_eq hs hn h0).mpr (Or.inr ((ha x g1).mp g2)), by omega⟩
        · refine Or.inr ⟨fun x hx hd => ?_, h2⟩
          rcases (dm_eq hs hn h0).mp hd with g | g
          · exact h1 x hx g
          · exact g1 x hx ((ha x hx).mpr g)
    · rw [e1]
      rcases hm.2 with ⟨x, g1, g2, g3⟩ | ⟨g1, g2⟩
      · exact Or.inl ⟨x, g1, (dm_eq hs hn h0).mpr (Or.inr ((ha x g1).mp g2)), g3⟩
      · rcases h.2 with ⟨x, h1, h2, h3⟩ | ⟨h1, h2⟩
        · exact Or.inl ⟨x, h1, (dm_eq hs hn h0).mpr (Or.inl h2), by omega⟩
        · refine Or.inr ⟨fun x hx hd => ?_, g2⟩
          rcases (dm_eq hs hn h0).mp hd with g | g
          · exact h1 x hx g
          · exact g1 x hx ((ha x hx).mpr g)
/-- before any node has told -/
theorem me_0 (hok : ok ws) {k : Nat} (hk : k < nN ws) {x y : Int} (hx : x = 1) (hy : y = if nv ws k = -1 then 999999 else nv ws k) : spP ws (nN ws) k x ∧ mnP ws (nN ws) k y := by
  have hs := hok.2.1
  have hdm : ∀ z ∈ ws, (dm ws (nN ws) k z ↔ z.1 = pn ws k) := by
    intro z _
    constructor
    · rintro ⟨_, h | ⟨d, h1, h2, _⟩⟩
      · exact h
      · have := kd_lt h1; omega
    · intro h; exact ⟨by rw [h]; exact List.prefix_refl _, Or.inl h⟩
  refine ⟨⟨(kd ws k).length, Nat.le_refl _, fun j hj => kd_lt (nx_in hj).1, fun h => by omega, ?_⟩, ?_, ?_⟩
  · rw [nx_end (Nat.le_refl _), hx]; omega
  · intro z hz hd
    have e := (hdm z hz).mp hd
    have hn : nu ws (pn ws k) = some z.2 := (nu_mem hs).mpr (by rw [← e]; exact hz)
    have := (hok.1 z hz).2.2.2
    rw [hy, nv_nu hok.1 hs hk, hn]
    show (if z.2 = -1 then (999999 : Int) else z.2) ≤ z.2
    rw [if_neg (by omega)]
    exact Int.le_refl _
  · rw [hy, nv_nu hok.1 hs hk]
    cases e : nu ws (pn ws k) with
    | none =>
      right
      refine ⟨fun z hz hd => ?_, if_pos rfl⟩
      have e2 := (hdm z hz).mp hd
      have : nu ws (pn ws k) = some z.2 := (nu_mem hs).mpr (by rw [← e2]; exact hz)
      rw [e] at this
      simp at this
    | some n =>
      left
      have hm := (nu_mem hs).mp e
      have := (hok.1 _ hm).2.2.2
      dsimp only at this
      refine ⟨(pn ws k, n), hm, (hdm _ hm).mpr rfl, ?_⟩
      show n = if n = -1 then (999999 : Int) else n
      rw [if_neg (by omega)]
/-- what a machine's nodes tell -/
def msP (S : Nat → Nat → Int) (ws : List wd) : Prop := ∀ k, k < nN ws → S 4 k = lst ws (pn ws k) ∧ S 5 k = (sz ws (pn ws k) : Int)
theorem ma_measure (hok : ok ws) (h14 : S 14 0 = (nN ws : Int)) (T : trP S ws (nN ws)) (V : nvP S ws (nN ws)) {x1 : Int} (hx : (ws = [] ∧ x1 = 1) ∨ (ws ≠ [] ∧ x1 = 0)) (d : Nat) : ∃ S', am_cV d N_ma_measure [.inr (.inr (some (q))), .inl (x1)] (maH q g S) = some (maH q g S') ∧ msP S' ws ∧ fd [4, 5] S S' := by
  have hs := hok.2.1
  have hN' : nN ws ≤ 1001 := ND_len hok
  have hNp : 0 < nN ws := nN_pos
  have lp1 : ∀ (k i : Nat) (S1 : Nat → Nat → Int), i + k = nN ws → fd [4, 5] S S1 → (∀ j, j < i → S1 5 j = 1 ∧ S1 4 j = if nv ws j = -1 then 999999 else nv ws j) → ∃ S', EV d N_ma_measure T_ma_measure_2 [.inr (.inr (some (q))), .inl (x1), .inl ((i : Int)), am_nul] [] (maH q g S1) = EV d N_ma_measure T_ma_measure_2 [.inr (.inr (some (q))), .inl (x1), .inl ((nN ws : Int)), am_nul] [] (maH q g S') ∧ fd [4, 5] S S' ∧ (∀ j, j < nN ws → S' 5 j = 1 ∧ S' 4 j = if nv ws j = -1 then 999999 else nv ws j) := by
    intro k
    induction k with
    | zero =>
      intro i S1 hi F h
      obtain rfl : i = nN ws := by omega
      exact ⟨S1, rfl, F, h⟩
    | succ k ih =>
      intro i S1 hi F h
      have e9 : (i : Int) + 1 = ((i + 1 : Nat) : Int) := by omega
      obtain ⟨T1, hT1⟩ : ∃ T, T = am_fu S1 5 (am_fu (S1 5) i 1) := ⟨_, rfl⟩
      have h14' : S1 14 0 = (nN ws : Int) := by rw [F 14 (by decide)]; exact h14
      have h3 : T1 3 i = nv ws i := by rw [hT1, fu_ne (by decide), F 3 (by decide)]; exact V i (by omega)
      have F1 : fd [4, 5] S T1 := by rw [hT1]; exact F.up (by decide) _
      have next : ∀ y, y = (if nv ws i = -1 then 999999 else nv ws i) → ∃ S', EV d N_ma_measure T_ma_measure_2 [.inr (.inr (some (q))), .inl (x1), .inl (((i + 1 : Nat) : Int)), am_nul] [] (maH q g (am_fu T1 4 (am_fu (T1 4) i y))) = EV d N_ma_measure T_ma_measure_2 [.inr (.inr (some (q))), .inl (x1), .inl ((nN ws : Int)), am_nul] [] (maH q g S') ∧ fd [4, 5] S S' ∧ (∀ j, j < nN ws → S' 5 j = 1 ∧ S' 4 j = if nv ws j = -1 then 999999 else nv ws j) := by
        intro y hy
        refine ih (i + 1) _ (by omega) (F1.up (by decide) _) (fun j hj => ?_)
        have e5 : (am_fu T1 4 (am_fu (T1 4) i y)) 5 = am_fu (S1 5) i 1 := by rw [fu_ne (by decide), hT1, fu_self]
        have e4 : (am_fu T1 4 (am_fu (T1 4) i y)) 4 = am_fu (S1 4) i y := by rw [fu_self, hT1, fu_ne (by decide)]
        rw [e5, e4]
        by_cases c : j = i
        · rw [c, fu_self, fu_self]
          exact ⟨rfl, hy⟩
        · rw [fu_ne c, fu_ne c]
          exact h j (by omega)
      by_cases c : nv ws i = -1
      · obtain ⟨S', e, r⟩ := next 999999 (by rw [if_pos c])
        refine ⟨S', Eq.trans ?_ e, r⟩
        rw [c] at h3
        (try dsimp only); rw [B_ma_measure_2]; (try simp (disch := omega) only [Option.bind_some, if_true, if_false, eq_self, not_true_eq_false, not_false_eq_true, am_w_id, if_pos, if_neg, fu_self, fu_ne, Int.toNat_natCast, ma_gI_14, ma_p_14, h14', hT1.symm, h3, e9, ma_s_4]); rw [B_ma_measure_10]; (try simp (disch := omega) only [Option.bind_some, if_true, if_false, eq_self, not_true_eq_false, not_false_eq_true, am_w_id, if_pos, if_neg, fu_self, fu_ne, Int.toNat_natCast, ma_gR_5, ma_l_5, ma_s_5, ma_gR_4, ma_l_4, ma_s_4, ma_gR_3, ma_l_3, ma_s_3, h14', hT1.symm, h3, e9, ma_s_4]); rw [B_ma_measure_32]; (try simp (disch := omega) only [Option.bind_some, if_true, if_false, eq_self, not_true_eq_false, not_false_eq_true, am_w_id, if_pos, if_neg, fu_self, fu_ne, Int.toNat_natCast, h14', hT1.symm, h3, e9, ma_s_4]); rw [B_ma_measure_43]; (try simp (disch := omega) only [Option.bind_some, if_true, if_false, eq_self, not_true_eq_false, not_false_eq_true, am_w_id, if_pos, if_neg, fu_self, fu_ne, Int.toNat_natCast, h14', hT1.symm, h3, e9, ma_s_4])
      · obtain ⟨S', e, r⟩ := next (nv ws i) (by rw [if_neg c])
        refine ⟨S', Eq.trans ?_ e, r⟩
        (try dsimp only); rw [B_ma_measure_2]; (try simp (disch := omega) only [Option.bind_some, if_true, if_false, eq_self, not_true_eq_false, not_false_eq_true, am_w_id, if_pos, if_neg, fu_self, fu_ne, Int.toNat_natCast, ma_gI_14, ma_p_14, h14', hT1.symm, h3, c, e9, ma_s_4]); rw [B_ma_measure_10]; (try simp (disch := omega) only [Option.bind_some, if_true, if_false, eq_self, not_true_eq_false, not_false_eq_true, am_w_id, if_pos, if_neg, fu_self, fu_ne, Int.toNat_natCast, ma_gR_5, ma_l_5, ma_s_5, ma_gR_4, ma_l_4, ma_s_4, ma_gR_3, ma_l_3, ma_s_3, h14', hT1.symm, h3, c, e9, ma_s_4]); rw [B_ma_measure_37]; (try simp (disch := omega) only [Option.bind_some, if_true, if_false, eq_self, not_true_eq_false, not_false_eq_true, am_w_id, if_pos, if_neg, fu_self, fu_ne, Int.toNat_natCast, ma_gR_3, ma_l_3, ma_s_3, h14', hT1.symm, h3, c, e9, ma_s_4]); rw [B_ma_measure_43]; (try simp (disch := omega) only [Option.bind_some, if_true, if_false, eq_self, not_true_eq_false, not_false_eq_true, am_w_id, if_pos, if_neg, fu_self, fu_ne, Int.toNat_natCast, h14', hT1.symm, h3, c, e9, ma_s_4])
  have lp2 : ∀ (n : Nat) (S1 : Nat → Nat → Int) (j3 : am_V), n < nN ws → fd [4, 5] S S1 → meP S1 ws (n + 1) → ∃ S' j3', EV d N_ma_measure T_ma_measure_57 [.inr (.inr (some (q))), .inl (x1), .inl ((n : Int)), j3] [] (maH q g S1) = EV d N_ma_measure T_ma_measure_110 [.inr (.inr (some (q))), .inl (x1), .inl (0), j3'] [] (maH q g S') ∧ fd [4, 5] S S' ∧ meP S' ws 1 := by
    intro n
    induction n with
    | zero =>
      intro S1 j3 hn F M
      refine ⟨S1, j3, ?_, F, M⟩
      (try dsimp only); rw [B_ma_measure_57]; (try simp (disch := omega) only [Option.bind_some, if_true, if_false, eq_self, not_true_eq_false, not_false_eq_true, am_w_id, if_pos, if_neg, fu_self, fu_ne, Int.toNat_natCast])
      rfl
    | succ n ih =>
      intro S1 j3 hn F M
      obtain ⟨hlt, hm⟩ := pr_in hs hn (by omega)
      obtain ⟨p1, p2⟩ := M (pr ws (n + 1)) (by omega)
      obtain ⟨n1, n2⟩ := M (n + 1) hn
      have b1 := spP_bd hok (by omega) p1
      have b2 := spP_bd hok hn n1
      have hsz := spP_all hs hn (Nat.le_refl _) n1
      have h2 : S1 2 (n + 1) = (pr ws (n + 1) : Int) := by
        rw [F 2 (by decide), (T (n + 1) hn).2.2]
        unfold par
        rw [if_neg (by omega)]
      obtain ⟨T1, hT1⟩ : ∃ T, T = am_fu S1 5 (am_fu (S1 5) (pr ws (n + 1)) (S1 5 (pr ws (n + 1)) + S1 5 (n + 1))) := ⟨_, rfl⟩
      have t4 : T1 4 = S1 4 := by rw [hT1, fu_ne (by decide)]
      obtain ⟨T2, hT2⟩ : ∃ T, T = am_fu T1 4 (am_fu (T1 4) (pr ws (n + 1)) (am_min (S1 4 (pr ws (n + 1))) (S1 4 (n + 1)))) := ⟨_, rfl⟩
      have FT : fd [4, 5] S T2 := by rw [hT2, hT1]; exact (F.up (by decide) _).up (by decide) _
      obtain ⟨S', j3', e, r1, r2⟩ := ih T2 (.inl ((pr ws (n + 1) : Int))) (by omega) FT (fun k hk => by
        have e5 : T2 5 = am_fu (S1 5) (pr ws (n + 1)) (S1 5 (pr ws (n + 1)) + S1 5 (n + 1)) := by rw [hT2, fu_ne (by decide), hT1, fu_self]
        have e4 : T2 4 = am_fu (S1 4) (pr ws (n + 1)) (am_min (S1 4 (pr ws (n + 1))) (S1 4 (n + 1))) := by rw [hT2, fu_self, t4]
        rw [e5, e4]
        by_cases c : k = pr ws (n + 1)
        · rw [c, fu_self, fu_self]
          refine ⟨?_, mnP_eq hs hok.1 hn (by omega) p2 n2⟩
          rw [hsz]
          exact spP_eq hs hn (by omega) p1
        · rw [fu_ne c, fu_ne c]
          obtain ⟨m1, m2⟩ := M k hk
          exact ⟨spP_ne hs hk c m1, mnP_ne c m2⟩)
      refine ⟨S', j3', Eq.trans ?_ e, r1, r2⟩
      have e9 : ((n + 1 : Nat) : Int) + (-1) = (n : Int) := by omega
      have c1 : ¬ ((n + 1 : Nat) : Int) ≤ 0 := by omega
      have b12 : -2147483648 ≤ S1 5 (pr ws (n + 1)) + S1 5 (n + 1) := by omega
      have b13 : S1 5 (pr ws (n + 1)) + S1 5 (n + 1) < 2147483648 := by omega
      (try dsimp only); rw [B_ma_measure_57]; (try simp (disch := omega) only [Option.bind_some, if_true, if_false, eq_self, not_true_eq_false, not_false_eq_true, am_w_id, if_pos, if_neg, fu_self, fu_ne, Int.toNat_natCast, c1, h2, am_w_id b12 b13, hT1.symm, t4, hT2.symm, e9]); rw [B_ma_measure_61]; (try simp (disch := omega) only [Option.bind_some, if_true, if_false, eq_self, not_true_eq_false, not_false_eq_true, am_w_id, if_pos, if_neg, fu_self, fu_ne, Int.toNat_natCast, ma_gR_2, ma_l_2, ma_s_2, ma_gR_5, ma_l_5, ma_s_5, ma_gR_4, ma_l_4, ma_s_4, c1, h2, am_w_id b12 b13, hT1.symm, t4, hT2.symm, e9])
      rw [hT2, t4]
  obtain ⟨S1, e1, F1, h1⟩ := lp1 (nN ws) 0 S (by omega) fd.rf (fun j hj => by omega)
  obtain ⟨S2, j3, e2, F2, M2⟩ := lp2 (nN ws - 1) S1 am_nul (by omega) F1 (by
    rw [show nN ws - 1 + 1 = nN ws by omega]
    intro k hk
    obtain ⟨a1, a2⟩ := h1 k hk
    exact me_0 hok hk a1 a2)
  have st : am_call d N_ma_measure [.inr (.inr (some (q))), .inl (x1)] (maH q g S) = EV d N_ma_measure T_ma_measure_2 [.inr (.inr (some (q))), .inl (x1), .inl (((0 : Nat) : Int)), am_nul] [] (maH q g S) := by
    (try dsimp only); rw [en_ma_measure]; (try simp (disch := omega) only [Option.bind_some, if_true, if_false, eq_self, not_true_eq_false, not_false_eq_true, am_w_id, if_pos, if_neg, fu_self, fu_ne, Int.toNat_natCast]); rw [B_ma_measure_0]; (try simp (disch := omega) only [Option.bind_some, if_true, if_false, eq_self, not_true_eq_false, not_false_eq_true, am_w_id, if_pos, if_neg, fu_self, fu_ne, Int.toNat_natCast])
    rfl
  have h14' : S1 14 0 = (nN ws : Int) := by rw [F1 14 (by decide)]; exact h14
  have e9 : (nN ws : Int) - 1 = ((nN ws - 1 : Nat) : Int) := by omega
  have st2 : EV d N_ma_measure T_ma_measure_2 [.inr (.inr (some (q))), .inl (x1), .inl ((nN ws : Int)), am_nul] [] (maH q g S1) = EV d N_ma_measure T_ma_measure_57 [.inr (.inr (some (q))), .inl (x1), .inl (((nN ws - 1 : Nat) : Int)), am_nul] [] (maH q g S1) := by
    (try dsimp only); rw [B_ma_measure_2]; (try simp (disch := omega) only [Option.bind_some, if_true, if_false, eq_self, not_true_eq_false, not_false_eq_true, am_w_id, if_pos, if_neg, fu_self, fu_ne, Int.toNat_natCast, ma_gI_14, ma_p_14, h14', e9]); rw [B_ma_measure_50]; (try simp (disch := omega) only [Option.bind_some, if_true, if_false, eq_self, not_true_eq_false, not_false_eq_true, am_w_id, if_pos, if_neg, fu_self, fu_ne, Int.toNat_natCast, ma_gI_14, ma_p_14, h14', e9])
  have st3 := st.trans (e1.trans (st2.trans e2))
  rcases hx with ⟨hn, rfl⟩ | ⟨hn, rfl⟩
  · have hN1 : nN ws = 1 := by rw [hn]; rfl
    refine ⟨am_fu S2 4 (am_fu (S2 4) 0 0), am_cV_of (st3.trans ?_), fun k hk => ?_, F2.up (by decide) _⟩
    · have q1 : ¬ (1 : Int) = 0 := by decide
      (try dsimp only); rw [B_ma_measure_110]; (try simp (disch := omega) only [Option.bind_some, if_true, if_false, eq_self, not_true_eq_false, not_false_eq_true, am_w_id, if_pos, if_neg, fu_self, fu_ne, Int.toNat_natCast, q1, Int.toNat_zero]); rw [B_ma_measure_114]; (try simp (disch := omega) only [Option.bind_some, if_true, if_false, eq_self, not_true_eq_false, not_false_eq_true, am_w_id, if_pos, if_neg, fu_self, fu_ne, Int.toNat_natCast, ma_gR_4, ma_l_4, ma_s_4, q1, Int.toNat_zero]); rw [B_ma_measure_121]; (try simp (disch := omega) only [Option.bind_some, if_true, if_false, eq_self, not_true_eq_false, not_false_eq_true, am_w_id, if_pos, if_neg, fu_self, fu_ne, Int.toNat_natCast, q1, Int.toNat_zero])
    · obtain rfl : k = 0 := by omega
      rw [fu_self, fu_self, fu_ne (by decide)]
      refine ⟨?_, spP_all hs hk (Nat.le_refl _) (M2 0 hk).1⟩
      rw [hn]
      rfl
  · refine ⟨S2, am_cV_of (st3.trans ?_), fun k hk => ?_, F2⟩
    · (try dsimp only); rw [B_ma_measure_110]; (try simp (disch := omega) only [Option.bind_some, if_true, if_false, eq_self, not_true_eq_false, not_false_eq_true, am_w_id, if_pos, if_neg, fu_self, fu_ne, Int.toNat_natCast]); rw [B_ma_measure_121]; (try simp (disch := omega) only [Option.bind_some, if_true, if_false, eq_self, not_true_eq_false, not_false_eq_true, am_w_id, if_pos, if_neg, fu_self, fu_ne, Int.toNat_natCast])
    · obtain ⟨m1, m2⟩ := M2 k hk
      exact ⟨mnP_all hok hn hk (by omega) m2, spP_all hs hk (by omega) m1⟩
end MA
