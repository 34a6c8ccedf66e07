/-! the machine of words: what it tells -/
section DW
variable {ws : List wd}
theorem mM_get {s j : Nat} (h : (fst ws)[s]? = some j) : eOf (mM ws) s = en ws (pn ws j) ∧ aOf (mM ws) s = (kd ws j).map (stA ws j) := by
  have e : (mM ws)[s]? = some (stM ws j) := by unfold mM; rw [List.getElem?_map, h]; rfl
  unfold eOf aOf
  rw [List.getD_eq_getElem?_getD, e]
  exact ⟨rfl, rfl⟩
theorem stt_get {n : Nat} (hn : n < nN ws) : ∃ j, (fst ws)[stt ws n]? = some j ∧ j < nN ws ∧ R ws (pn ws j) = R ws (pn ws n) := by
  obtain ⟨j, h1, h2⟩ := sx_get (P := tt) (eR_eqv ws) hn rfl
  exact ⟨j, h1, (rl_lt (List.mem_of_getElem? h1)).1, of_decide_eq_true h2⟩
theorem stt_iff {i j : Nat} : stt ws i = stt ws j ↔ R ws (pn ws i) = R ws (pn ws j) := by
  rw [sx_iff (P := tt) (eR_eqv ws) rfl rfl]
  exact decide_eq_true_iff
theorem stt_0 : stt ws 0 = 0 := by
  obtain ⟨j, h1, h2⟩ := sx_get (eR_eqv ws) (n := 1) (k := 0) (P := tt) (by omega) rfl
  have := (List.getElem?_eq_some_iff.mp h1).1
  have h3 := rl_len (e := eR ws) (P := tt) 1
  show sx (eR ws) tt 0 = 0
  omega
/-- what is left of words, by what goes on -/
theorem R_step (hok : ok ws) {j : Nat} (hj : j < nN ws) : R ws (pn ws j) = (if en ws (pn ws j) = -2 then [] else [([], en ws (pn ws j))]) ++ (kd ws j).flatMap (fun c => (R ws (pn ws c)).map (fun w => (ll ws c :: w.1, lst ws (pn ws c) - lst ws (pn ws j) + w.2))) := by
  have hs := hok.2.1
  refine so_ext (R_so hs _) ?_ ?_
  · have h1 : so ((kd ws j).flatMap (fun c => (R ws (pn ws c)).map (fun w => (ll ws c :: w.1, lst ws (pn ws c) - lst ws (pn ws j) + w.2)))) := by
      have hp := lts_srt hs hj
      unfold lts at hp
      rw [List.pairwise_map] at hp
      have key : ∀ l : List Nat, l.Pairwise (fun a b => ll ws a < ll ws b) → so (l.flatMap (fun c => (R ws (pn ws c)).map (fun w => (ll ws c :: w.1, lst ws (pn ws c) - lst ws (pn ws j) + w.2)))) := by
        intro l
        induction l with
        | nil => intro _; exact List.Pairwise.nil
        | cons c l ih =>
          intro h
          obtain ⟨h1, h2⟩ := List.pairwise_cons.mp h
          rw [List.flatMap_cons]
          refine List.pairwise_append.mpr ⟨?_, ih h2, fun p hp q hq => ?_⟩
          · rw [List.pairwise_map]
            refine List.Pairwise.imp (fun {v w} hvw => ?_) (R_so hs (pn ws c))
            show lx (ll ws c :: v.1) (ll ws c :: w.1) = true
            unfold lx
            simp [hvw]
          · obtain ⟨v, _, rfl⟩ := List.mem_map.mp hp
            obtain ⟨b, hb, hq2⟩ := List.mem_flatMap.mp hq
            obtain ⟨w, _, rfl⟩ := List.mem_map.mp hq2
            show lx (ll ws c :: v.1) (ll ws b :: w.1) = true
            have := h1 b hb
            unfold lx
            rw [decide_eq_true this, Bool.true_or]
      exact key _ hp
    split
    · rw [List.nil_append]; exact h1
    · refine List.pairwise_append.mpr ⟨List.pairwise_singleton _ _, h1, fun p hp q hq => ?_⟩
      rw [List.mem_singleton.mp hp]
      obtain ⟨b, hb, hq2⟩ := List.mem_flatMap.mp hq
      obtain ⟨w, _, rfl⟩ := List.mem_map.mp hq2
      rfl
  · rintro ⟨s, v⟩
    rw [List.mem_append, List.mem_flatMap]
    cases s with
    | nil =>
      constructor
      · intro h
        have hv : 0 ≤ v := R_nn hok.1 h
        have he := (en_iff hok.1 hs hv).mpr h
        left
        rw [if_neg (by omega), he]
        exact List.mem_singleton.mpr rfl
      · rintro (h | ⟨c, hc, h⟩)
        · split at h
          · simp at h
          · next c =>
            injection List.mem_singleton.mp h with _ h2
            have hn := (en_nn hok.1 hs (pn ws j)).resolve_left c
            rw [h2]
            exact (en_iff hok.1 hs hn).mp rfl
        · obtain ⟨w, _, h2⟩ := List.mem_map.mp h
          injection h2 with h2 _
          simp at h2
    | cons x s =>
      rw [R_mem]
      constructor
      · intro h
        right
        have hb : bg ws (pn ws j ++ [x]) := Or.inr ⟨_, h, ⟨s, by simp⟩⟩
        refine ⟨ix ws (pn ws j ++ [x]), (kd_mem hs hj).mpr ⟨x, hb, rfl⟩, ?_⟩
        have hp := pn_ix hs hb
        have hl : ll ws (ix ws (pn ws j ++ [x])) = x := by unfold ll; rw [hp]; simp
        rw [hp, hl]
        refine List.mem_map.mpr ⟨(s, v + lst ws (pn ws j) - lst ws (pn ws j ++ [x])), ?_, ?_⟩
        · rw [R_mem, show v + lst ws (pn ws j) - lst ws (pn ws j ++ [x]) + lst ws (pn ws j ++ [x]) = v + lst ws (pn ws j) by omega, List.append_assoc]
          exact h
        · dsimp only
          rw [show lst ws (pn ws j ++ [x]) - lst ws (pn ws j) + (v + lst ws (pn ws j) - lst ws (pn ws j ++ [x])) = v by omega]
      · rintro (h | ⟨c, hc, h⟩)
        · split at h
          · simp at h
          · injection List.mem_singleton.mp h with h _
            simp at h
        · obtain ⟨⟨s', v'⟩, h1, h2⟩ := List.mem_map.mp h
          injection h2 with h2 h3
          injection h2 with h2 h4
          dsimp only at h2 h3 h4
          obtain ⟨e1, _, _⟩ := kd_ll hs hj hc
          rw [R_mem, e1, List.append_assoc] at h1
          rw [← h2, ← h4, ← h3]
          rw [e1]
          rw [show lst ws (pn ws j ++ [ll ws c]) - lst ws (pn ws j) + v' + lst ws (pn ws j) = v' + lst ws (pn ws j ++ [ll ws c]) by omega]
          exact h1
theorem R_kd (hok : ok ws) {j c : Nat} (hj : j < nN ws) (hc : c ∈ kd ws j) {r : wd} (hr : r ∈ R ws (pn ws c)) : (ll ws c :: r.1, lst ws (pn ws c) - lst ws (pn ws j) + r.2) ∈ R ws (pn ws j) := by
  rw [R_step hok hj]
  exact List.mem_append_right _ (List.mem_flatMap.mpr ⟨c, hc, List.mem_map.mpr ⟨r, hr, rfl⟩⟩)
/-- the words that the machine has behind a node's state are what is left behind the node -/
theorem wy_R (hok : ok ws) : ∀ (k n : Nat), n < nN ws → (∀ r ∈ R ws (pn ws n), r.1.length ≤ k) → wy (mM ws) k (stt ws n) = R ws (pn ws n)
  | 0, n, hn, h => by
    obtain ⟨j, h1, h2, h3⟩ := stt_get hn
    obtain ⟨e1, _⟩ := mM_get h1
    unfold wy
    rw [e1, ← h3]
    have hst := R_step hok h2
    have hnil : (kd ws j).flatMap (fun c => (R ws (pn ws c)).map (fun w => (ll ws c :: w.1, lst ws (pn ws c) - lst ws (pn ws j) + w.2))) = [] := by
      rw [List.eq_nil_iff_forall_not_mem]
      intro x hx
      have hm : x ∈ R ws (pn ws n) := by rw [← h3, hst]; exact List.mem_append_right _ hx
      have := h x hm
      obtain ⟨c, hc, h4⟩ := List.mem_flatMap.mp hx
      obtain ⟨w, _, rfl⟩ := List.mem_map.mp h4
      simp at this
    rw [hnil, List.append_nil] at hst
    exact hst.symm
  | k + 1, n, hn, h => by
    obtain ⟨j, h1, h2, h3⟩ := stt_get hn
    obtain ⟨e1, e2⟩ := mM_get h1
    unfold wy
    rw [e1, e2, ← h3, R_step hok h2]
    congr 1
    have key : ∀ l : List Nat, (∀ c ∈ l, c ∈ kd ws j) → (l.map (stA ws j)).flatMap (fun a => (wy (mM ws) k a.2.2.toNat).map (fun w => (a.1 :: w.1, a.2.1 + w.2))) = l.flatMap (fun c => (R ws (pn ws c)).map (fun w => (ll ws c :: w.1, lst ws (pn ws c) - lst ws (pn ws j) + w.2))) := by
      intro l
      induction l with
      | nil => intro _; rfl
      | cons c l ih =>
        intro hl
        rw [List.map_cons, List.flatMap_cons, List.flatMap_cons, ih (fun d hd => hl d (List.mem_cons_of_mem _ hd))]
        have hc := hl c List.mem_cons_self
        have hw := wy_R hok k c (kd_lt hc) (fun r hr => by
          have hm := R_kd hok h2 hc hr
          rw [h3] at hm
          have := h _ hm
          simp only [List.length_cons] at this
          omega)
        congr 1
        show ((wy (mM ws) k ((stt ws c : Int)).toNat).map _) = _
        rw [Int.toNat_natCast, hw]
        rfl
    exact key _ (fun c hc => hc)
theorem R_len10 (hok : ok ws) {p : List Int} {r : wd} (h : r ∈ R ws p) : p.length + r.1.length ≤ 10 := by
  obtain ⟨s, v⟩ := r
  rw [R_mem] at h
  have := (hok.1 _ h).2.2.1
  rw [List.length_append] at this
  exact this
theorem wy_mM (hok : ok ws) : wy (mM ws) 10 0 = R ws [] := by
  have := wy_R hok 10 0 nN_pos (fun r hr => by have := R_len10 hok hr; omega)
  rw [stt_0, pn0] at this
  exact this
theorem upw_R (ws : List wd) : upw [] (lst ws []) (R ws []) = ws := by
  unfold upw R
  have : sb ws [] = ws := by unfold sb; rw [List.filter_eq_self]; intro a _; rfl
  rw [this, List.map_map]
  have e : ∀ l : List wd, l.map ((fun w : wd => (([] : List Int) ++ w.1, lst ws [] + w.2)) ∘ (fun q : wd => (q.1.drop ([] : List Int).length, q.2 - lst ws []))) = l := by
    intro l
    induction l with
    | nil => rfl
    | cons q l ih =>
      rw [List.map_cons, ih]
      congr 1
      obtain ⟨a, b⟩ := q
      simp
      omega
  exact e ws
theorem rc_node (hok : ok ws) : ∀ (d s : Nat), rc (mM ws) d s = true → ∃ n, n < nN ws ∧ (pn ws n).length = d ∧ stt ws n = s
  | 0, s, h => by
    unfold rc at h
    have := of_decide_eq_true h
    exact ⟨0, nN_pos, rfl, by rw [stt_0]; exact this.symm⟩
  | d + 1, s, h => by
    obtain ⟨p, h1, h2, a, h3, h4⟩ := rc_s.mp h
    obtain ⟨n, n1, n2, n3⟩ := rc_node hok d p h2
    have hs := hok.2.1
    obtain ⟨j, j1, j2, j3⟩ := stt_get n1
    rw [n3] at j1
    rw [(mM_get j1).2] at h3
    obtain ⟨c, hc, rfl⟩ := List.mem_map.mp h3
    have h4' : (stt ws c : Int) = (s : Int) := h4
    obtain ⟨c1, c2, c3⟩ := kd_ll hs j2 hc
    have hb := (R_bg j3 (s := [ll ws c]) (by simp)).mp c2
    refine ⟨ix ws (pn ws n ++ [ll ws c]), ix_lt hs hb, ?_, ?_⟩
    · rw [pn_ix hs hb, List.length_append, n2]; rfl
    · have e : R ws (pn ws (ix ws (pn ws n ++ [ll ws c]))) = R ws (pn ws c) := by
        rw [pn_ix hs hb, c1]
        exact (R_sub hok.1 hs j3 (by simp) c2).symm
      have := stt_iff.mpr e
      omega
theorem bg_len (hok : ok ws) {p : List Int} (h : bg ws p) : p.length ≤ 10 := by
  rcases h with h | ⟨q, h1, h2⟩
  · rw [h]; simp
  · have := (hok.1 q h1).2.2.1
    have := h2.length_le
    omega
theorem aw_mM (hok : ok ws) : aw (mM ws) := by
  have hs := hok.2.1
  refine ⟨fun s _ => ?_, ⟨?_, ?_⟩, fun d s h1 h2 _ h4 => ?_⟩
  · cases e : rc (mM ws) 11 s with
    | false => rfl
    | true =>
      obtain ⟨n, n1, n2, _⟩ := rc_node hok 11 s e
      have := bg_len hok (pn_bg n1)
      omega
  · have h0 : (fst ws)[stt ws 0]? = some 0 := by
      obtain ⟨j, h1, h2, h3⟩ := stt_get (ws := ws) (n := 0) nN_pos
      have : j ∈ fst ws := List.mem_of_getElem? h1
      have hsx : ∃ j', (rl (eR ws) tt 1)[sx (eR ws) tt 0]? = some j' ∧ eR ws j' 0 = true := sx_get (P := tt) (eR_eqv ws) (by omega) rfl
      obtain ⟨j', k1, _⟩ := hsx
      have k3 := (rl_lt (List.mem_of_getElem? k1)).1
      have hp := rl_pre (e := eR ws) (P := tt) (show 1 ≤ nN ws from nN_pos)
      obtain ⟨l, hl⟩ := hp
      have k4 : (fst ws)[stt ws 0]? = some j' := by
        show (rl (eR ws) tt (nN ws))[sx (eR ws) tt 0]? = some j'
        rw [← hl, List.getElem?_append_left (List.getElem?_eq_some_iff.mp k1).1]
        exact k1
      rw [k4, show j' = 0 by omega]
    rw [stt_0] at h0
    rw [(mM_get h0).1, pn0]
    unfold en
    cases e : nu ws [] with
    | none => rfl
    | some n => exact absurd rfl (hok.1 _ ((nu_mem hs).mp e)).2.1
  · rw [cwn_wy, wy_mM hok, R_len]
    have := sb_le hs []
    have := hok.2.2
    omega
  · obtain ⟨n, n1, n2, n3⟩ := rc_node hok d s h4
    rw [cwn_wy, ← n3, wy_R hok (10 - d) n n1 (fun r hr => by have := R_len10 hok hr; omega), R_len]
    have hne : pn ws n ≠ [] := fun e => by rw [e] at n2; simp at n2; omega
    have := List.length_pos_iff.mpr (bg_ne (pn_bg n1) hne)
    omega
end DW
