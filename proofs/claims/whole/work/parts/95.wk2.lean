/-! the way through a machine: what it gives, and that it goes through the machine of words -/
section WK
variable {ss : List sta} {ws : List wd}
theorem wk1_some {e x : Int} {w : List Int} {bk bk' : List wd} (h : wk1 e w x bk = some bk') : bk' = bk ++ (if e = -2 then [] else [(w, x + e)]) ∧ (e ≠ -2 → w ≠ [] ∧ 0 ≤ x + e ∧ x + e ≤ 999999) ∧ (bk.length ≤ 100 → bk'.length ≤ 100) := by
  unfold wk1 at h
  by_cases c : e = -2
  · rw [if_pos c] at h ⊢
    injection h with h
    rw [← h, List.append_nil]
    exact ⟨rfl, fun g => absurd c g, fun g => g⟩
  · rw [if_neg c] at h ⊢
    split at h
    · next c2 =>
      injection h with h
      rw [← h]
      refine ⟨rfl, fun _ => ⟨c2.1, c2.2.1⟩, fun _ => ?_⟩
      rw [List.length_append, List.length_singleton]
      omega
    · simp at h
/-- what words must be -/
def wkN (p : wd) : Prop := p.1 ≠ [] ∧ 0 ≤ p.2 ∧ p.2 ≤ 999999
theorem wkF_some (hm : mach ss) : ∀ (n s : Nat) (w : List Int) (x : Int) (bk : List wd) (v : Nat) (B : List wd) (v' : Nat), s < ss.length → wkF ss n s w x bk v = some (B, v') → 1 ≤ n ∧ B = bk ++ upw w x (wy ss (n - 1) s) ∧ (∀ p ∈ upw w x (wy ss (n - 1) s), wkN p) ∧ (bk.length ≤ 100 → B.length ≤ 100)
  | 0, s, w, x, bk, v, B, v', hs, h => by simp [wkF] at h
  | n + 1, s, w, x, bk, v, B, v', hs, h => by
    have hmo := of_ok hm hs
    rw [wkF] at h
    split at h
    · simp at h
    · split at h
      · simp at h
      · next bk1 e1 =>
        obtain ⟨b1, b2, b3⟩ := wk1_some e1
        have h' : wkA ss n w x (aOf ss s) (some (bk1, v + 1)) = some (B, v') := h
        have fold : ∀ (l : List arc) (bk : List wd) (v : Nat), (∀ a ∈ l, 0 ≤ a.2.2 ∧ a.2.2 < ss.length) → wkA ss n w x l (some (bk, v)) = some (B, v') → (l = [] ∨ 1 ≤ n) ∧ B = bk ++ l.flatMap (fun a => upw (w ++ [a.1]) (x + a.2.1) (wy ss (n - 1) a.2.2.toNat)) ∧ (∀ p ∈ l.flatMap (fun a => upw (w ++ [a.1]) (x + a.2.1) (wy ss (n - 1) a.2.2.toNat)), wkN p) ∧ (bk.length ≤ 100 → B.length ≤ 100) := by
          intro l
          induction l with
          | nil =>
            intro bk v _ h
            have h2 : some (bk, v) = some (B, v') := h
            injection h2 with h2
            injection h2 with h2 _
            subst h2
            exact ⟨Or.inl rfl, by simp, fun p hp => by simp at hp, fun g => g⟩
          | cons a l ih =>
            intro bk v ho h
            have h2 : wkA ss n w x l (wkF ss n a.2.2.toNat (w ++ [a.1]) (x + a.2.1) bk v) = some (B, v') := h
            cases e : wkF ss n a.2.2.toNat (w ++ [a.1]) (x + a.2.1) bk v with
            | none =>
              rw [e, wkA_none] at h2
              simp at h2
            | some q =>
              obtain ⟨B1, v1⟩ := q
              have ha := ho a List.mem_cons_self
              obtain ⟨c1, c2, c3, c4⟩ := wkF_some hm n a.2.2.toNat (w ++ [a.1]) (x + a.2.1) bk v B1 v1 (by omega) e
              rw [e] at h2
              obtain ⟨d1, d2, d3, d4⟩ := ih B1 v1 (fun y hy => ho y (List.mem_cons_of_mem _ hy)) h2
              refine ⟨Or.inr c1, ?_, fun p hp => ?_, fun g => d4 (c4 g)⟩
              · rw [d2, c2, List.flatMap_cons, List.append_assoc]
              · rw [List.flatMap_cons] at hp
                rcases List.mem_append.mp hp with g | g
                · exact c3 p g
                · exact d3 p g
        obtain ⟨f1, f2, f3, f4⟩ := fold (aOf ss s) bk1 (v + 1) (fun a ha => by have := hmo.2.1 a ha; omega) h'
        have hupw : upw w x (wy ss n s) = (if eOf ss s = -2 then [] else [(w, x + eOf ss s)]) ++ (aOf ss s).flatMap (fun a => upw (w ++ [a.1]) (x + a.2.1) (wy ss (n - 1) a.2.2.toNat)) := by
          cases n with
          | zero =>
            have hnil : aOf ss s = [] := f1.resolve_right (by omega)
            rw [hnil, List.flatMap_nil, List.append_nil]
            unfold wy upw
            split
            · rfl
            · rw [List.map_cons, List.map_nil, List.append_nil]
          | succ m =>
            rw [wy, upw_app]
            congr 1
            · unfold upw
              split
              · rfl
              · rw [List.map_cons, List.map_nil, List.append_nil]
            · have key : ∀ l : List arc, upw w x (l.flatMap (fun a => (wy ss m a.2.2.toNat).map (fun w => (a.1 :: w.1, a.2.1 + w.2)))) = l.flatMap (fun a => upw (w ++ [a.1]) (x + a.2.1) (wy ss m a.2.2.toNat)) := by
                intro l
                induction l with
                | nil => rfl
                | cons a l ih => rw [List.flatMap_cons, List.flatMap_cons, upw_app, ih, upw_map]
              exact key _
        rw [Nat.add_sub_cancel, hupw]
        refine ⟨by omega, by rw [f2, b1, List.append_assoc], fun p hp => ?_, fun g => f4 (b3 g)⟩
        rcases List.mem_append.mp hp with g | g
        · split at g
          · simp at g
          · next c =>
            rw [List.mem_singleton.mp g]
            exact b2 c
        · exact f3 p g
theorem wy_wl (hm : mach ss) : ∀ (n s : Nat), s < ss.length → ∀ p ∈ wy ss n s, wl p.1 ∧ p.1.length ≤ n
  | 0, s, hs, p, hp => by
    unfold wy at hp
    split at hp
    · simp at hp
    · rw [List.mem_singleton.mp hp]
      exact ⟨fun z hz => by simp at hz, Nat.le_refl _⟩
  | n + 1, s, hs, p, hp => by
    unfold wy at hp
    rcases List.mem_append.mp hp with g | g
    · split at g
      · simp at g
      · rw [List.mem_singleton.mp g]
        exact ⟨fun z hz => by simp at hz, Nat.zero_le _⟩
    · obtain ⟨a, ha, h1⟩ := List.mem_flatMap.mp g
      obtain ⟨q, hq, rfl⟩ := List.mem_map.mp h1
      have hao := (of_ok hm hs).2.1 a ha
      obtain ⟨i1, i2⟩ := wy_wl hm n a.2.2.toNat (by omega) q hq
      refine ⟨fun z hz => ?_, by rw [List.length_cons]; omega⟩
      rcases List.mem_cons.mp hz with h | h
      · rw [h]; exact hao.1
      · exact i1 z h
/-- words that a way gives are words -/
theorem wkF_ok (hm : mach ss) (hl : 1 ≤ ss.length) {x : Int} {B : List wd} {v' : Nat} (h : wkF ss 11 0 [] x [] 0 = some (B, v')) : B = upw [] x (wy ss 10 0) ∧ ok B := by
  obtain ⟨_, h2, h3, h4⟩ := wkF_some hm 11 0 [] x [] 0 B v' (by omega) h
  rw [List.nil_append] at h2
  have h2' : B = upw [] x (wy ss 10 0) := h2
  refine ⟨h2', fun p hp => ?_, by rw [h2']; exact so_upw (so_wy hm 10 0 (by omega)), h4 (by simp)⟩
  rw [h2'] at hp
  have h5 := h3 p hp
  unfold upw at hp
  obtain ⟨q, hq, rfl⟩ := List.mem_map.mp hp
  obtain ⟨i1, i2⟩ := wy_wl hm 10 0 (by omega) q hq
  exact ⟨by rw [List.nil_append]; exact i1, h5.1, by rw [List.nil_append]; exact i2, h5.2⟩
theorem upw_sb (hs : so ws) (p : List Int) : upw p (lst ws p) (R ws p) = sb ws p := by
  unfold upw R
  rw [List.map_map]
  have key : ∀ l : List wd, (∀ q ∈ l, p <+: q.1) → l.map ((fun w : wd => (p ++ w.1, lst ws p + w.2)) ∘ (fun q : wd => (q.1.drop p.length, q.2 - lst ws p))) = l := by
    intro l
    induction l with
    | nil => intro _; rfl
    | cons q l ih =>
      intro h
      rw [List.map_cons, ih (fun y hy => h y (List.mem_cons_of_mem _ hy))]
      congr 1
      obtain ⟨a, b⟩ := q
      obtain ⟨t, ht⟩ := h _ List.mem_cons_self
      dsimp only at ht
      subst ht
      show (p ++ (p ++ t).drop p.length, lst ws p + (b - lst ws p)) = (p ++ t, b)
      rw [List.drop_left, show lst ws p + (b - lst ws p) = b by omega]
  exact key _ (fun q hq => (sb_mem.mp hq).2)
/-- the words of a node: its own, and those of what goes on -/
theorem sb_step (hok : ok ws) {k : Nat} (hk : k < nN ws) : sb ws (pn ws k) = (if en ws (pn ws k) = -2 then [] else [(pn ws k, lst ws (pn ws k) + en ws (pn ws k))]) ++ (kd ws k).flatMap (fun c => sb ws (pn ws c)) := by
  rw [← upw_sb hok.2.1, R_step hok hk, upw_app]
  congr 1
  · unfold upw
    split
    · rfl
    · rw [List.map_cons, List.map_nil, List.append_nil]
  · have key : ∀ l : List Nat, (∀ c ∈ l, c ∈ kd ws k) → upw (pn ws k) (lst ws (pn ws k)) (l.flatMap (fun c => (R ws (pn ws c)).map (fun w => (ll ws c :: w.1, lst ws (pn ws c) - lst ws (pn ws k) + w.2)))) = l.flatMap (fun c => sb ws (pn ws c)) := by
      intro l
      induction l with
      | nil => intro _; rfl
      | cons c l ih =>
        intro h
        rw [List.flatMap_cons, List.flatMap_cons, upw_app, ih (fun d hd => h d (List.mem_cons_of_mem _ hd)), upw_map]
        congr 1
        obtain ⟨e1, _, _⟩ := kd_ll hok.2.1 hk (h c List.mem_cons_self)
        rw [← e1, show lst ws (pn ws k) + (lst ws (pn ws c) - lst ws (pn ws k)) = lst ws (pn ws c) by omega]
        exact upw_sb hok.2.1 _
    exact key _ (fun c hc => hc)
/-- how many nodes the kids from the i-th on have together -/
def szs (ws : List wd) (l : List Nat) : Nat := (l.map (fun c => sz ws (pn ws c))).sum
theorem szs_drop (hs : so ws) {k : Nat} (hk : k < nN ws) : ∀ (n i : Nat), i + n = (kd ws k).length → nx ws k i + szs ws ((kd ws k).drop i) = k + sz ws (pn ws k)
  | 0, i, h => by
    rw [nx_end (by omega), List.drop_of_length_le (by omega)]
    rfl
  | n + 1, i, h => by
    have hi : i < (kd ws k).length := by omega
    have ih := szs_drop hs hk n (i + 1) (by omega)
    have h1 := nx_s hs hk hi
    obtain ⟨_, h2⟩ := nx_in (ws := ws) (k := k) hi
    have hdr : (kd ws k).drop i = nx ws k i :: (kd ws k).drop (i + 1) := by
      rw [List.drop_eq_getElem_cons hi]
      congr 1
      exact (List.getElem?_eq_some_iff.mp h2).2
    rw [hdr]
    unfold szs at ih ⊢
    rw [List.map_cons, List.sum_cons]
    omega
theorem sz_step (hs : so ws) {k : Nat} (hk : k < nN ws) : sz ws (pn ws k) = 1 + szs ws (kd ws k) := by
  have h := szs_drop hs hk (kd ws k).length 0 (by omega)
  rw [List.drop_zero, nx_0 hs hk] at h
  omega
/-- a state's arcs are those of any of its nodes -/
theorem aOf_mM (hok : ok ws) {k : Nat} (hk : k < nN ws) : eOf (mM ws) (stt ws k) = en ws (pn ws k) ∧ aOf (mM ws) (stt ws k) = (kd ws k).map (stA ws k) := by
  obtain ⟨j, h1, h2, h3⟩ := stt_get hk
  obtain ⟨e1, e2⟩ := mM_get h1
  obtain ⟨a1, a2⟩ := sg_R2 (tw := fun c => (stt ws c : Int)) hok.1 hok.2.1 h2 hk h3 (fun x _ y _ hR => by
    have := stt_iff.mpr hR
    show (stt ws x : Int) = (stt ws y : Int)
    rw [this])
  exact ⟨e1.trans a1, e2.trans a2⟩
/-- the way goes through the machine of words -/
theorem wkF_mM (hok : ok ws) : ∀ (n k : Nat) (bk : List wd) (v : Nat), k < nN ws → (pn ws k).length + n = 11 → v + sz ws (pn ws k) ≤ 1001 → bk.length + (sb ws (pn ws k)).length ≤ 100 →
    wkF (mM ws) n (stt ws k) (pn ws k) (lst ws (pn ws k)) bk v = some (bk ++ sb ws (pn ws k), v + sz ws (pn ws k))
  | 0, k, bk, v, hk, hl, _, _ => by
    have := bg_len hok (pn_bg hk)
    omega
  | n + 1, k, bk, v, hk, hl, hv, hb => by
    have hs := hok.2.1
    obtain ⟨e1, e2⟩ := aOf_mM hok hk
    have hsb := sb_step hok hk
    have hsz := sz_step hs hk
    rw [hsb, List.length_append] at hb
    have h1 : wk1 (en ws (pn ws k)) (pn ws k) (lst ws (pn ws k)) bk = some (bk ++ (if en ws (pn ws k) = -2 then [] else [(pn ws k, lst ws (pn ws k) + en ws (pn ws k))])) := by
      unfold wk1
      by_cases c : en ws (pn ws k) = -2
      · rw [if_pos c, if_pos c, List.append_nil]
      · rw [if_neg c, if_neg c]
        rw [if_neg c, List.length_singleton] at hb
        have hn : ∃ m, nu ws (pn ws k) = some m ∧ en ws (pn ws k) = m - lst ws (pn ws k) := by
          unfold en at c ⊢
          cases e : nu ws (pn ws k) with
          | none => rw [e] at c; exact absurd rfl c
          | some m => exact ⟨m, rfl, rfl⟩
        obtain ⟨m, hm1, hm2⟩ := hn
        have hw := hok.1 _ ((nu_mem hs).mp hm1)
        have hw2 := hw.2.2.2
        dsimp only at hw2
        rw [if_pos ⟨hw.2.1, by omega, by omega⟩]
    have fold : ∀ (l : List Nat) (bk : List wd) (v : Nat), (∀ c ∈ l, c ∈ kd ws k) → v + szs ws l ≤ 1001 → bk.length + (l.flatMap (fun c => sb ws (pn ws c))).length ≤ 100 →
        wkA (mM ws) n (pn ws k) (lst ws (pn ws k)) (l.map (stA ws k)) (some (bk, v)) = some (bk ++ l.flatMap (fun c => sb ws (pn ws c)), v + szs ws l) := by
      intro l
      induction l with
      | nil => intro bk v _ _ _; rw [List.flatMap_nil, List.append_nil]; rfl
      | cons c l ih =>
        intro bk v hc hv hb
        have hcm := hc c List.mem_cons_self
        obtain ⟨k1, _, _⟩ := kd_ll hs hk hcm
        unfold szs at hv
        rw [List.map_cons, List.sum_cons] at hv
        rw [List.flatMap_cons, List.length_append] at hb
        have hlc : (pn ws c).length = (pn ws k).length + 1 := by rw [k1, List.length_append, List.length_singleton]
        have h2 := wkF_mM hok n c bk v (kd_lt hcm) (by omega) (by omega) (by omega)
        have h3 : wkA (mM ws) n (pn ws k) (lst ws (pn ws k)) ((c :: l).map (stA ws k)) (some (bk, v)) = wkA (mM ws) n (pn ws k) (lst ws (pn ws k)) (l.map (stA ws k)) (wkF (mM ws) n ((stt ws c : Int)).toNat (pn ws k ++ [ll ws c]) (lst ws (pn ws k) + (lst ws (pn ws c) - lst ws (pn ws k))) bk v) := rfl
        rw [h3, Int.toNat_natCast, ← k1, show lst ws (pn ws k) + (lst ws (pn ws c) - lst ws (pn ws k)) = lst ws (pn ws c) by omega, h2, ih _ _ (fun d hd => hc d (List.mem_cons_of_mem _ hd)) (by unfold szs; omega) (by rw [List.length_append]; omega), List.flatMap_cons, List.append_assoc]
        unfold szs
        rw [List.map_cons, List.sum_cons, Nat.add_assoc]
    rw [wkF, if_neg (by have := sz_pos hs (pn_bg hk); omega), e1, h1, e2]
    dsimp only
    have h4 := fold (kd ws k) (bk ++ (if en ws (pn ws k) = -2 then [] else [(pn ws k, lst ws (pn ws k) + en ws (pn ws k))])) (v + 1) (fun c hc => hc) (by omega) (by rw [List.length_append]; omega)
    refine Eq.trans h4 ?_
    rw [hsb, List.append_assoc, hsz]
    congr 2
    omega
theorem wkF_all (hok : ok ws) : ∃ v, wkF (mM ws) 11 0 [] (lst ws []) [] 0 = some (ws, v) := by
  have hN' : nN ws ≤ 1001 := ND_len hok
  have hsz := szk_le hok.2.1 (k := 0) nN_pos
  rw [pn0] at hsz
  have hsb : sb ws [] = ws := by unfold sb; rw [List.filter_eq_self]; intro a _; rfl
  have h := wkF_mM hok 11 0 [] 0 nN_pos (by rw [pn0]; rfl) (by rw [pn0]; omega) (by rw [pn0, hsb]; have := hok.2.2; simp; exact this)
  rw [stt_0, pn0, hsb, List.nil_append] at h
  exact ⟨_, h⟩
/-- what a way through bytes gives: the words that they are packed of, if there are such -/
theorem wk_up {t : List Int} {x : Int} (hr : rdB t = .inr (x, ss)) (hl : 1 ≤ ss.length) : (wkF ss 11 0 [] x [] 0 = none → upW t = none) ∧ ∀ B v, wkF ss 11 0 [] x [] 0 = some (B, v) → ok B ∧ (pkE B = t → upW t = some B) ∧ (pkE B ≠ t → upW t = none) := by
  have hm := rdB_mk hr
  have key : ∀ W, upW t = some W → ∃ v, wkF ss 11 0 [] x [] 0 = some (W, v) := by
    intro W h
    obtain ⟨k1, k2⟩ := upW_iff.mp h
    have k3 := rdB_pk k1
    rw [k2, hr] at k3
    injection k3 with k3
    injection k3 with k3 k4
    rw [k3, k4]
    exact wkF_all k1
  refine ⟨fun h => ?_, fun B v h => ?_⟩
  · cases e : upW t with
    | none => rfl
    | some W =>
      obtain ⟨v, h2⟩ := key W e
      rw [h] at h2
      simp at h2
  · obtain ⟨_, hB⟩ := wkF_ok hm hl h
    refine ⟨hB, fun hp => upW_iff.mpr ⟨hB, hp⟩, fun hp => ?_⟩
    cases e : upW t with
    | none => rfl
    | some W =>
      obtain ⟨v', h2⟩ := key W e
      rw [h] at h2
      injection h2 with h2
      injection h2 with h2 _
      rw [h2] at hp
      exact absurd (upW_iff.mp e).2 hp
end WK
