/-! nodes by their numbers; the nodes that go on from one -/
section KD
variable {ws : List wd} {p q : List Int}
/-- the beginning that a node is -/
def pn (ws : List wd) (k : Nat) : List Int := ((ND ws).getD k ([], 0)).1
/-- the node of a beginning -/
def ix (ws : List wd) (p : List Int) : Nat := ah (ND ws) p
abbrev nN (ws : List wd) : Nat := (ND ws).length
theorem pn_get {k : Nat} (hk : k < nN ws) : ∃ v, (ND ws)[k]? = some (pn ws k, v) := by
  refine ⟨((ND ws).getD k ([], 0)).2, ?_⟩
  unfold pn
  rw [List.getD_eq_getElem?_getD, List.getElem?_eq_getElem hk]
  rfl
theorem pn_of {k : Nat} {v : Int} (h : (ND ws)[k]? = some (p, v)) : pn ws k = p := by
  unfold pn
  rw [List.getD_eq_getElem?_getD, h]
  rfl
theorem pn0 : pn ws 0 = [] := rfl
theorem nN_pos : 0 < nN ws := by unfold nN ND; rw [List.length_cons]; omega
theorem pn_ix (hs : so ws) (h : bg ws p) : pn ws (ix ws p) = p := by
  obtain ⟨v, hv⟩ := bg_get hs h
  exact pn_of hv
theorem ix_lt (hs : so ws) (h : bg ws p) : ix ws p < nN ws := by
  obtain ⟨v, hv⟩ := bg_get hs h
  exact (List.getElem?_eq_some_iff.mp hv).1
theorem ix_pn (hs : so ws) {k : Nat} (hk : k < nN ws) : ix ws (pn ws k) = k := by
  obtain ⟨v, hv⟩ := pn_get hk
  exact ah_get (p := (pn ws k, v)) (ND_so hs) hv
theorem pn_bg {k : Nat} (hk : k < nN ws) : bg ws (pn ws k) := by
  obtain ⟨v, hv⟩ := pn_get hk
  exact ND_bg (r := (pn ws k, v)) (List.mem_of_getElem? hv)
theorem pn_inj (hs : so ws) {i j : Nat} (hi : i < nN ws) (hj : j < nN ws) (h : pn ws i = pn ws j) : i = j := by
  rw [← ix_pn hs hi, ← ix_pn hs hj, h]
theorem pn_lx (hs : so ws) {i j : Nat} (hi : i < nN ws) (hj : j < nN ws) : lx (pn ws i) (pn ws j) = true ↔ i < j := by
  obtain ⟨a, ha⟩ := pn_get hi
  obtain ⟨b, hb⟩ := pn_get hj
  exact ah_lt_of (ND_so hs) ha hb
theorem sub_iff (hs : so ws) {j : Nat} (hj : j < nN ws) : p <+: pn ws j ↔ ix ws p ≤ j ∧ j < ix ws p + sz ws p := by
  obtain ⟨v, hv⟩ := pn_get hj
  exact sb_iff (q := (pn ws j, v)) (ND_so hs) p hv
theorem sz_pos (hs : so ws) (h : bg ws p) : 0 < sz ws p := by
  have h1 := (sub_iff (p := p) hs (ix_lt hs h)).mp (by rw [pn_ix hs h]; exact List.prefix_refl _)
  omega
theorem sz_le (hs : so ws) : ix ws p + sz ws p ≤ nN ws := sb_le (ND_so hs) p
/-- the nodes that go on from a node by a letter -/
def kd (ws : List wd) (k : Nat) : List Nat := (List.range (nN ws)).filter (fun c => decide (c ≠ 0) && decide (ix ws (pn ws c).dropLast = k))
theorem kd_srt (k : Nat) : (kd ws k).Pairwise (· < ·) := List.Pairwise.filter _ List.pairwise_lt_range
theorem kd_lt {k c : Nat} (h : c ∈ kd ws k) : c < nN ws := by
  unfold kd at h
  rw [List.mem_filter, List.mem_range] at h
  exact h.1
theorem kd_mem (hs : so ws) {k c : Nat} (hk : k < nN ws) : c ∈ kd ws k ↔ ∃ x, bg ws (pn ws k ++ [x]) ∧ c = ix ws (pn ws k ++ [x]) := by
  unfold kd
  rw [List.mem_filter, List.mem_range, Bool.and_eq_true, decide_eq_true_eq, decide_eq_true_eq]
  constructor
  · rintro ⟨h1, h2, h3⟩
    have hb := pn_bg h1
    have hne : pn ws c ≠ [] := fun e => h2 (pn_inj hs h1 nN_pos (e.trans pn0.symm))
    have hd := List.dropLast_concat_getLast hne
    have hb2 := bg_pf hb (List.dropLast_prefix (pn ws c))
    have e := pn_ix hs hb2
    rw [h3] at e
    refine ⟨(pn ws c).getLast hne, ?_, ?_⟩
    · rw [e, hd]; exact hb
    · rw [e, hd, ix_pn hs h1]
  · rintro ⟨x, h1, rfl⟩
    have e := pn_ix hs h1
    refine ⟨ix_lt hs h1, fun g => ?_, ?_⟩
    · rw [g, pn0] at e
      exact ap_ne e.symm
    · rw [e, List.dropLast_concat, ix_pn hs hk]
theorem kd_pn (hs : so ws) {k c : Nat} (hk : k < nN ws) (h : c ∈ kd ws k) : ∃ x, pn ws c = pn ws k ++ [x] ∧ bg ws (pn ws k ++ [x]) := by
  obtain ⟨x, h1, h2⟩ := (kd_mem hs hk).mp h
  exact ⟨x, by rw [h2, pn_ix hs h1], h1⟩
theorem kd_in (hs : so ws) {k c : Nat} (hk : k < nN ws) (h : c ∈ kd ws k) : k < c ∧ c + sz ws (pn ws c) ≤ k + sz ws (pn ws k) := by
  have hc := kd_lt h
  obtain ⟨x, h1, h2⟩ := kd_pn hs hk h
  have ek := ix_pn hs hk
  have ec := ix_pn hs hc
  have hp : pn ws k <+: pn ws c := by rw [h1]; exact List.prefix_append _ _
  have g1 := (sub_iff hs hc).mp hp
  have hne : k ≠ c := fun e => by
    rw [← e] at h1
    have := congrArg List.length h1
    simp at this
  have hz := sz_pos hs (pn_bg hc)
  have hle := sz_le (p := pn ws c) hs
  have g2 : pn ws c <+: pn ws (c + sz ws (pn ws c) - 1) := (sub_iff hs (by omega)).mpr (by omega)
  have g3 := (sub_iff hs (by omega)).mp (hp.trans g2)
  omega
theorem kd_dis (hs : so ws) {k c c' : Nat} (hk : k < nN ws) (h : c ∈ kd ws k) (h' : c' ∈ kd ws k) (hl : c < c') : c + sz ws (pn ws c) ≤ c' := by
  have hc := kd_lt h
  have hc' := kd_lt h'
  have ec := ix_pn hs hc
  rcases Nat.lt_or_ge c' (c + sz ws (pn ws c)) with g | g
  · exfalso
    have h1 := (sub_iff (p := pn ws c) hs hc').mpr (by omega)
    obtain ⟨x, e1, _⟩ := kd_pn hs hk h
    obtain ⟨y, e2, _⟩ := kd_pn hs hk h'
    have := h1.eq_of_length (by rw [e1, e2]; simp)
    have := pn_inj hs hc hc' this
    omega
  · exact g
/-- a place among a node's that no node going on has begun and not ended is the begin of one -/
theorem kd_nxt (hs : so ws) {k j : Nat} (hk : k < nN ws) (h1 : k < j) (h2 : j < k + sz ws (pn ws k)) (hb : ∀ c ∈ kd ws k, c + sz ws (pn ws c) ≤ j ∨ j ≤ c) : j ∈ kd ws k := by
  have ek := ix_pn hs hk
  have hle := sz_le (p := pn ws k) hs
  have hj : j < nN ws := by omega
  obtain ⟨t, ht⟩ := (sub_iff (p := pn ws k) hs hj).mpr (by omega)
  cases t with
  | nil =>
    rw [List.append_nil] at ht
    have := pn_inj hs hk hj ht
    omega
  | cons x t =>
    have hpj : pn ws k ++ [x] <+: pn ws j := ⟨t, by rw [← ht, List.append_assoc]; rfl⟩
    have hbx := bg_pf (pn_bg hj) hpj
    have hin : ix ws (pn ws k ++ [x]) ∈ kd ws k := (kd_mem hs hk).mpr ⟨x, hbx, rfl⟩
    have g1 := (sub_iff hs hj).mp hpj
    have g2 := hb _ hin
    rw [pn_ix hs hbx] at g2
    rw [show j = ix ws (pn ws k ++ [x]) by omega]
    exact hin
/-- the begin of the i-th node that goes on; behind the last the end -/
def nx (ws : List wd) (k i : Nat) : Nat := (kd ws k).getD i (k + sz ws (pn ws k))
theorem nx_in {k i : Nat} (h : i < (kd ws k).length) : nx ws k i ∈ kd ws k ∧ (kd ws k)[i]? = some (nx ws k i) := by
  unfold nx
  rw [List.getD_eq_getElem?_getD, List.getElem?_eq_getElem h, Option.getD_some]
  exact ⟨List.getElem_mem h, rfl⟩
theorem nx_end {k i : Nat} (h : (kd ws k).length ≤ i) : nx ws k i = k + sz ws (pn ws k) := by
  unfold nx
  rw [List.getD_eq_getElem?_getD, List.getElem?_eq_none h, Option.getD_none]
theorem kd_idx {k i j a b : Nat} (hi : (kd ws k)[i]? = some a) (hj : (kd ws k)[j]? = some b) : a < b ↔ i < j := by
  have hp := List.pairwise_iff_getElem.mp (kd_srt (ws := ws) k)
  obtain ⟨h1, h2⟩ := List.getElem?_eq_some_iff.mp hi
  obtain ⟨h3, h4⟩ := List.getElem?_eq_some_iff.mp hj
  constructor
  · intro h
    rcases Nat.lt_trichotomy i j with c | c | c
    · exact c
    · subst c; omega
    · have := hp j i h3 h1 c; omega
  · intro h
    have := hp i j h1 h3 h
    omega
theorem nx_lt (hs : so ws) {k i : Nat} (hk : k < nN ws) (h : i < (kd ws k).length) : k < nx ws k i ∧ nx ws k i < k + sz ws (pn ws k) := by
  have h1 := kd_in hs hk (nx_in h).1
  have h2 := sz_pos hs (pn_bg (kd_lt (nx_in h).1))
  omega
theorem nx_iff (hs : so ws) {k i : Nat} (hk : k < nN ws) : i < (kd ws k).length ↔ nx ws k i < k + sz ws (pn ws k) := by
  constructor
  · intro h; exact (nx_lt hs hk h).2
  · intro h
    rcases Nat.lt_or_ge i (kd ws k).length with c | c
    · exact c
    · rw [nx_end c] at h; omega
theorem nx_0 (hs : so ws) {k : Nat} (hk : k < nN ws) : nx ws k 0 = k + 1 := by
  have hz := sz_pos hs (pn_bg hk)
  by_cases c : sz ws (pn ws k) = 1
  · rcases Nat.lt_or_ge 0 (kd ws k).length with g | g
    · have := nx_lt hs hk g; omega
    · rw [nx_end g, c]
  · have h1 : k + 1 ∈ kd ws k := kd_nxt hs hk (by omega) (by omega) (fun c hc => by
      have := (kd_in hs hk hc).1
      omega)
    obtain ⟨m, hm⟩ := List.getElem?_of_mem h1
    have hlt := (List.getElem?_eq_some_iff.mp hm).1
    obtain ⟨g1, g2⟩ := nx_in (ws := ws) (k := k) (i := 0) (by omega)
    have g3 := (kd_in hs hk g1).1
    have g4 := kd_idx hm g2
    omega
theorem nx_s (hs : so ws) {k i : Nat} (hk : k < nN ws) (h : i < (kd ws k).length) : nx ws k i + sz ws (pn ws (nx ws k i)) = nx ws k (i + 1) := by
  obtain ⟨g1, g2⟩ := nx_in h
  have g3 := kd_in hs hk g1
  have hz := sz_pos hs (pn_bg (kd_lt g1))
  by_cases c : nx ws k i + sz ws (pn ws (nx ws k i)) = k + sz ws (pn ws k)
  · rw [c]
    rcases Nat.lt_or_ge (i + 1) (kd ws k).length with g | g
    · obtain ⟨f1, f2⟩ := nx_in g
      have f3 := (kd_idx g2 f2).mpr (by omega)
      have f4 := kd_dis hs hk g1 f1 f3
      have f5 := nx_lt hs hk g
      omega
    · rw [nx_end g]
  · have hin : nx ws k i + sz ws (pn ws (nx ws k i)) ∈ kd ws k := kd_nxt hs hk (by omega) (by omega) (fun c hc => by
      rcases Nat.lt_trichotomy c (nx ws k i) with f | f | f
      · have := kd_dis hs hk hc g1 f; omega
      · subst f; omega
      · have := kd_dis hs hk g1 hc f; omega)
    obtain ⟨m, hm⟩ := List.getElem?_of_mem hin
    have hlt := (List.getElem?_eq_some_iff.mp hm).1
    have f1 := (kd_idx g2 hm).mp (by omega)
    obtain ⟨f2, f3⟩ := nx_in (ws := ws) (k := k) (i := i + 1) (by omega)
    have f4 := (kd_idx g2 f3).mpr (by omega)
    have f5 := kd_dis hs hk g1 f2 f4
    have f6 := kd_idx hm f3
    omega
/-- the last letter of a node -/
def ll (ws : List wd) (c : Nat) : Int := (pn ws c).getLastD 0
theorem kd_ll (hs : so ws) {k c : Nat} (hk : k < nN ws) (h : c ∈ kd ws k) : pn ws c = pn ws k ++ [ll ws c] ∧ bg ws (pn ws k ++ [ll ws c]) ∧ c = ix ws (pn ws k ++ [ll ws c]) := by
  obtain ⟨x, h1, h2⟩ := kd_pn hs hk h
  have e : ll ws c = x := by unfold ll; rw [h1]; simp
  rw [e]
  exact ⟨h1, h2, by rw [← h1, ix_pn hs (kd_lt h)]⟩
/-- a node's letters that go on, in their order -/
def lts (ws : List wd) (k : Nat) : List Int := (kd ws k).map (ll ws)
theorem lts_mem (hs : so ws) {k : Nat} (hk : k < nN ws) {x : Int} : x ∈ lts ws k ↔ bg ws (pn ws k ++ [x]) := by
  unfold lts
  rw [List.mem_map]
  constructor
  · rintro ⟨c, h1, rfl⟩
    exact (kd_ll hs hk h1).2.1
  · intro h
    refine ⟨ix ws (pn ws k ++ [x]), (kd_mem hs hk).mpr ⟨x, h, rfl⟩, ?_⟩
    unfold ll
    rw [pn_ix hs h]
    simp
theorem lts_srt (hs : so ws) {k : Nat} (hk : k < nN ws) : (lts ws k).Pairwise (· < ·) := by
  unfold lts
  rw [List.pairwise_map]
  refine List.Pairwise.imp_of_mem ?_ (kd_srt (ws := ws) k)
  intro a b ha hb h
  obtain ⟨h1, _, _⟩ := kd_ll hs hk ha
  obtain ⟨h3, _, _⟩ := kd_ll hs hk hb
  have := (pn_lx hs (kd_lt ha) (kd_lt hb)).mpr h
  rw [h1, h3, lx_app] at this
  simpa [lx] using this
theorem kd_lts (hs : so ws) {k : Nat} (hk : k < nN ws) : kd ws k = (lts ws k).map (fun x => ix ws (pn ws k ++ [x])) := by
  unfold lts
  rw [List.map_map]
  have : ∀ c ∈ kd ws k, ((fun x => ix ws (pn ws k ++ [x])) ∘ ll ws) c = id c := fun c hc => (kd_ll hs hk hc).2.2.symm
  rw [List.map_congr_left this, List.map_id]
/-- of each node that goes on: its letter, its OUTPUT, and something of it -/
def sg (ws : List wd) (tw : Nat → Int) (k : Nat) : List (Int × (Int × Int)) := (kd ws k).map (fun c => (ll ws c, lst ws (pn ws c) - lst ws (pn ws k), tw c))
theorem sg_eq (hs : so ws) (tw : Nat → Int) {k : Nat} (hk : k < nN ws) : sg ws tw k = (lts ws k).map (fun x => (x, lst ws (pn ws k ++ [x]) - lst ws (pn ws k), tw (ix ws (pn ws k ++ [x])))) := by
  unfold sg lts
  rw [List.map_map]
  refine List.map_congr_left (fun c hc => ?_)
  obtain ⟨h1, h2, h3⟩ := kd_ll hs hk hc
  dsimp only [Function.comp]
  rw [← h3, ← h1]
theorem sg_R1 (hk : ∀ p ∈ ws, wk p) (hs : so ws) {tw : Nat → Int} {a b : Nat} (ha : a < nN ws) (hb : b < nN ws) (ht : ∀ x ∈ kd ws a, ∀ y ∈ kd ws b, tw x = tw y → R ws (pn ws x) = R ws (pn ws y)) (he : en ws (pn ws a) = en ws (pn ws b)) (h : sg ws tw a = sg ws tw b) : R ws (pn ws a) = R ws (pn ws b) := by
  rw [sg_eq hs tw ha, sg_eq hs tw hb] at h
  have hl : lts ws a = lts ws b := by
    have := congrArg (List.map (fun t : Int × (Int × Int) => t.1)) h
    rw [List.map_map, List.map_map] at this
    have e : ((fun t : Int × (Int × Int) => t.1) ∘ fun x => (x, lst ws (pn ws a ++ [x]) - lst ws (pn ws a), tw (ix ws (pn ws a ++ [x])))) = id := rfl
    have e2 : ((fun t : Int × (Int × Int) => t.1) ∘ fun x => (x, lst ws (pn ws b ++ [x]) - lst ws (pn ws b), tw (ix ws (pn ws b ++ [x])))) = id := rfl
    rw [e, e2, List.map_id, List.map_id] at this
    exact this
  rw [← hl] at h
  have h2 := List.map_inj_left.mp h
  have hbg : ∀ x, bg ws (pn ws a ++ [x]) ↔ bg ws (pn ws b ++ [x]) := fun x => by rw [← lts_mem hs ha, ← lts_mem hs hb, hl]
  refine R_of hk hs he hbg (fun x hx => ?_)
  have h3 := h2 x ((lts_mem hs ha).mpr hx)
  injection h3 with _ h3
  injection h3 with h3 h4
  refine ⟨h3, ?_⟩
  have hx2 := (hbg x).mp hx
  have h5 := ht _ ((kd_mem hs ha).mpr ⟨x, hx, rfl⟩) _ ((kd_mem hs hb).mpr ⟨x, hx2, rfl⟩) h4
  rw [pn_ix hs hx, pn_ix hs hx2] at h5
  exact h5
theorem sg_R2 (hk : ∀ p ∈ ws, wk p) (hs : so ws) {tw : Nat → Int} {a b : Nat} (ha : a < nN ws) (hb : b < nN ws) (h : R ws (pn ws a) = R ws (pn ws b)) (ht : ∀ x ∈ kd ws a, ∀ y ∈ kd ws b, R ws (pn ws x) = R ws (pn ws y) → tw x = tw y) : en ws (pn ws a) = en ws (pn ws b) ∧ sg ws tw a = sg ws tw b := by
  refine ⟨R_en hk hs h, ?_⟩
  have hbg : ∀ x, bg ws (pn ws a ++ [x]) ↔ bg ws (pn ws b ++ [x]) := fun x => R_bg h (by simp)
  have hl : lts ws a = lts ws b := pw_ext (fun x y (g1 : x < y) (g2 : y < x) => by omega) _ _ (lts_srt hs ha) (lts_srt hs hb) (fun x => by rw [lts_mem hs ha, lts_mem hs hb, hbg])
  rw [sg_eq hs tw ha, sg_eq hs tw hb, ← hl]
  refine List.map_congr_left (fun x hx => ?_)
  have hx1 := (lts_mem hs ha).mp hx
  have hx2 := (hbg x).mp hx1
  have e1 := R_outE hk h (s := [x]) (by simp) hx1
  have e2 := R_sub hk hs h (s := [x]) (by simp) hx1
  rw [e1, ht _ ((kd_mem hs ha).mpr ⟨x, hx1, rfl⟩) _ ((kd_mem hs hb).mpr ⟨x, hx2, rfl⟩) (by rw [pn_ix hs hx1, pn_ix hs hx2]; exact e2)]
/-- the parent of a node -/
def pr (ws : List wd) (c : Nat) : Nat := ix ws (pn ws c).dropLast
theorem pr_in (hs : so ws) {c : Nat} (hc : c < nN ws) (h0 : c ≠ 0) : pr ws c < c ∧ c ∈ kd ws (pr ws c) := by
  have hb := bg_pf (pn_bg hc) (List.dropLast_prefix (pn ws c))
  have hlt := ix_lt hs hb
  have hin : c ∈ kd ws (pr ws c) := by
    unfold kd
    rw [List.mem_filter, List.mem_range, Bool.and_eq_true, decide_eq_true_eq, decide_eq_true_eq]
    exact ⟨hc, h0, rfl⟩
  exact ⟨(kd_in hs hlt hin).1, hin⟩
theorem kd_pr {k c : Nat} (h : c ∈ kd ws k) : pr ws c = k ∧ c ≠ 0 := by
  unfold kd at h
  rw [List.mem_filter, List.mem_range, Bool.and_eq_true, decide_eq_true_eq, decide_eq_true_eq] at h
  exact ⟨h.2.2, h.2.1⟩
end KD
