/-! the class: books as lists of words -/
/-- a list of words whose longs rise -/
def bok (ws : List wd) : Prop := (∀ p ∈ ws, wl p.1 ∧ p.1.length ≤ 10) ∧ so ws
theorem ok.b {ws : List wd} (h : ok ws) : bok ws := ⟨fun p hp => ⟨(h.1 p hp).1, (h.1 p hp).2.2.1⟩, h.2.1⟩
/-- a book, whatever it has -/
def bkW (h : am_H) (a : Nat) : Prop := ∃ n W N, bkr h a n W N
theorem bkW.fr {h h' : am_H} {a lo hi : Nat} (H : bkW h a) (F : am_fr lo hi h h') (hd : a + 3 ≤ lo ∨ hi ≤ a) : bkW h' a := by
  obtain ⟨n, W, N, h1⟩ := H
  exact ⟨n, W, N, h1.fr F hd⟩
theorem bkR.w {h : am_H} {a : Nat} {ws : List wd} (H : bkR h a ws) : bkW h a := by
  obtain ⟨W, N, h1, _⟩ := H
  exact ⟨_, W, N, h1⟩
theorem bkW.O {h : am_H} {a : Nat} (H : bkW h a) : am_isO h a 0 = true := by
  obtain ⟨n, W, N, h1⟩ := H
  exact rd_O h1.1
theorem gt_some {ws : List wd} {i : Nat} (h : i < ws.length) : ws[i]? = some (ws.getD i ([], 0)) := by rw [List.getD_eq_getElem?_getD, List.getElem?_eq_getElem h]; rfl
section BL
variable {h : am_H} {b : Nat} {ws : List wd} {W N : Nat → Int} {w : List Int}
theorem bk_srt (hb : bok ws) (hW : ∀ i p, ws[i]? = some p → W i = ec 10 p.1 ∧ N i = p.2) : srt ws.length W := by
  intro i j hij hj
  have h1 := gt_some (show i < ws.length by omega)
  have h2 := gt_some hj
  rw [(hW i _ h1).1, (hW j _ h2).1]
  obtain ⟨a1, a2⟩ := hb.1 _ (List.mem_of_getElem? h1)
  obtain ⟨b1, b2⟩ := hb.1 _ (List.mem_of_getElem? h2)
  exact (ec_lt 10 _ _ a1 b1 a2 b2).mpr (so_get hb.2 hij h1 h2)
theorem bk_isAh (hb : bok ws) (hW : ∀ i p, ws[i]? = some p → W i = ec 10 p.1 ∧ N i = p.2) (hw : wl w) (hl : w.length ≤ 10) : isAh ws.length W (ec 10 w) (ah ws w) := by
  refine ⟨ah_le ws w, fun i hi => ?_, fun i hi hn => ?_⟩
  · have hlt : i < ws.length := by have := ah_le ws w; omega
    have h1 := gt_some hlt
    rw [(hW i _ h1).1]
    obtain ⟨a1, a2⟩ := hb.1 _ (List.mem_of_getElem? h1)
    exact (ec_lt 10 _ _ a1 hw a2 hl).mpr (ah_lt ws w i _ hi h1)
  · have h1 := gt_some hn
    rw [(hW i _ h1).1]
    obtain ⟨a1, a2⟩ := hb.1 _ (List.mem_of_getElem? h1)
    have h2 := ah_ge hb.2 hi h1
    have h3 : ¬ ec 10 (ws.getD i ([], 0)).1 < ec 10 w := fun g => by
      rw [(ec_lt 10 _ _ a1 hw a2 hl).mp g] at h2
      exact Bool.noConfusion h2
    omega
theorem bk_ahead (hb : bok ws) (H : bkR h b ws) (hw : wl w) (hl : w.length ≤ 10) (d : Nat) : am_cI d N_bk_ahead [.inr (.inr (some (b))), .inr (.inl (ec 10 w))] h = some ((ah ws w : Int), h) := by
  obtain ⟨W, N, h1, h2⟩ := H
  obtain ⟨r, e, hr⟩ := b_ahead h1 (bk_srt hb h2) d (ec 10 w)
  rw [e, hr.uniq (bk_isAh hb h2 hw hl)]
theorem bk_placeOf (hb : bok ws) (H : bkR h b ws) (hw : wl w) (hl : w.length ≤ 10) (d : Nat) : am_cI (d + 1) N_bk_placeOf [.inr (.inr (some (b))), .inr (.inl (ec 10 w))] h = some (if nu ws w = none then -1 else (ah ws w : Int), h) := by
  obtain ⟨W, N, h1, h2⟩ := H
  obtain ⟨r, e, hr⟩ := b_placeOf h1 (bk_srt hb h2) d (ec 10 w)
  rw [e]
  have key : ∀ i, i < ws.length → W i = ec 10 w → (ws.getD i ([], 0)).1 = w := by
    intro i hi hi2
    have g1 := gt_some hi
    obtain ⟨a1, a2⟩ := hb.1 _ (List.mem_of_getElem? g1)
    rw [(h2 i _ g1).1] at hi2
    exact ec_inj a1 hw a2 hl hi2
  rcases hr with ⟨i, hi, hi2, rfl⟩ | ⟨rfl, hn⟩
  · have g1 := gt_some hi
    have g2 := key i hi hi2
    have g3 := ah_get hb.2 g1
    rw [g2] at g3
    have g4 := nu_get hb.2 g1
    rw [g2] at g4
    rw [if_neg (by rw [g4]; simp), g3]
  · by_cases c : nu ws w = none
    · rw [if_pos c]
    · exfalso
      obtain ⟨x, hx⟩ := Option.ne_none_iff_exists'.mp c
      have g1 := nu_some hx
      have g2 := (List.getElem?_eq_some_iff.mp g1).1
      exact hn _ g2 (h2 _ _ g1).1
theorem bk_placeNo (hb : bok ws) (H : bkR h b ws) {y : Int} (hy : y < 0) (d : Nat) : am_cI (d + 1) N_bk_placeOf [.inr (.inr (some (b))), .inr (.inl (y))] h = some (-1, h) := by
  obtain ⟨W, N, h1, h2⟩ := H
  obtain ⟨r, e, hr⟩ := b_placeOf h1 (bk_srt hb h2) d y
  rw [e]
  rcases hr with ⟨i, hi, hi2, rfl⟩ | ⟨rfl, hn⟩
  · exfalso
    have g1 := gt_some hi
    have g2 := (ec10 (hb.1 _ (List.mem_of_getElem? g1)).1).1
    rw [(h2 i _ g1).1] at hi2
    omega
  · rfl
theorem bk_enter (hb : bok ws) (H : bkR h b ws) (hw : wl w) (hl : w.length ≤ 10) (x : Int) (hr : nu ws w = none → ws.length < 100) (d : Nat) : ∃ h', am_cV (d + 1) N_bk_enter [.inr (.inr (some (b))), .inr (.inl (ec 10 w)), .inl (x)] h = some h' ∧ am_fr b (b + 3) h h' ∧ bkR h' b (put ws w x) := by
  obtain ⟨W, N, h1, h2⟩ := H
  have hA := bk_isAh hb h2 hw hl
  have hle := ah_le ws w
  obtain ⟨h', e, F, r⟩ := b_enter h1 (bk_srt hb h2) d (ec 10 w) x hA
  refine ⟨h', e, F, ?_⟩
  have hiff : (ah ws w < ws.length ∧ W (ah ws w) = ec 10 w) ↔ nu ws w ≠ none := by
    constructor
    · rintro ⟨c1, c2⟩
      have g1 := gt_some c1
      obtain ⟨a1, a2⟩ := hb.1 _ (List.mem_of_getElem? g1)
      rw [(h2 _ _ g1).1] at c2
      have g2 := ec_inj a1 hw a2 hl c2
      have g3 := nu_get hb.2 g1
      rw [g2] at g3
      rw [g3]
      simp
    · intro c
      obtain ⟨x, hx⟩ := Option.ne_none_iff_exists'.mp c
      have g1 := nu_some hx
      exact ⟨(List.getElem?_eq_some_iff.mp g1).1, (h2 _ _ g1).1⟩
  by_cases c : nu ws w = none
  · have hlen := hr c
    rw [if_neg (fun g => (hiff.mp g) c), if_pos hlen] at r
    have hpl := put_len ws w x
    rw [if_pos c] at hpl
    refine ⟨_, _, by rw [hpl]; exact r, fun i p hp => ?_⟩
    rw [put_get] at hp
    rcases Nat.lt_trichotomy i (ah ws w) with g | g | g
    · rw [if_pos g] at hp
      rw [fu_ne (by omega), fu_ne (by omega)]
      have := h2 i p hp
      unfold va_cpy
      rw [if_neg (by omega), if_neg (by omega)]
      exact this
    · rw [if_neg (by omega), if_pos g] at hp
      injection hp with hp
      rw [g, fu_self, fu_self, ← hp]
      exact ⟨rfl, rfl⟩
    · rw [if_neg (by omega), if_neg (by omega), if_pos c] at hp
      have hlt := (List.getElem?_eq_some_iff.mp hp).1
      have := h2 (i - 1) p hp
      rw [fu_ne (by omega), fu_ne (by omega)]
      unfold va_cpy
      rw [if_pos (by omega), if_pos (by omega), show ah ws w + (i - (ah ws w + 1)) = i - 1 by omega]
      exact this
  · rw [if_pos (hiff.mpr c)] at r
    have hpl := put_len ws w x
    rw [if_neg c] at hpl
    refine ⟨_, _, by rw [hpl]; exact r, fun i p hp => ?_⟩
    rw [put_get] at hp
    rcases Nat.lt_trichotomy i (ah ws w) with g | g | g
    · rw [if_pos g] at hp
      rw [fu_ne (by omega), fu_ne (by omega)]
      exact h2 i p hp
    · rw [if_neg (by omega), if_pos g] at hp
      injection hp with hp
      rw [g, fu_self, fu_self, ← hp]
      exact ⟨rfl, rfl⟩
    · rw [if_neg (by omega), if_neg (by omega), if_neg c] at hp
      rw [fu_ne (by omega), fu_ne (by omega)]
      exact h2 i p hp
theorem bk_erase (H : bkR h b ws) {k : Nat} (hk : k < ws.length) (d : Nat) : ∃ h', am_cV (d + 1) N_bk_removeAt [.inr (.inr (some (b))), .inl ((k : Int))] h = some h' ∧ am_fr b (b + 3) h h' ∧ bkR h' b (ws.eraseIdx k) := by
  obtain ⟨W, N, h1, h2⟩ := H
  obtain ⟨h', e, r, F⟩ := b_removeAt h1 d hk
  refine ⟨h', e, F, _, _, by rw [List.length_eraseIdx, if_pos hk]; exact r, fun i p hp => ?_⟩
  rw [List.getElem?_eraseIdx] at hp
  unfold va_cpy
  by_cases c : i < k
  · rw [if_pos c] at hp
    rw [if_neg (by omega), if_neg (by omega)]
    exact h2 i p hp
  · rw [if_neg c] at hp
    have := (List.getElem?_eq_some_iff.mp hp).1
    rw [if_pos (by omega), if_pos (by omega), show k + 1 + (i - k) = i + 1 by omega]
    exact h2 (i + 1) p hp
theorem bk_take {a : Nat} (H : bkW h a) (G : bkR h b ws) (hd : a + 3 ≤ b ∨ b + 3 ≤ a) (d : Nat) : ∃ h', am_cV d N_bk_takeFrom [.inr (.inr (some (a))), .inr (.inr (some (b)))] h = some h' ∧ am_fr a (a + 3) h h' ∧ bkR h' a ws := by
  obtain ⟨n, W, N, h1⟩ := H
  obtain ⟨V, M, g1, g2⟩ := G
  obtain ⟨h', e, r, F⟩ := b_takeFrom h1 g1 hd d
  refine ⟨h', e, F, _, _, r, fun i p hp => ?_⟩
  have hi := (List.getElem?_eq_some_iff.mp hp).1
  rw [cpy0, cpy0, if_pos hi, if_pos hi]
  exact g2 i p hp
theorem bk_clear {a : Nat} (H : bkW h a) (d : Nat) : ∃ h', am_cV d N_bk_clear [.inr (.inr (some (a)))] h = some h' ∧ am_fr a (a + 3) h h' ∧ bkR h' a [] := by
  obtain ⟨n, W, N, h1⟩ := H
  obtain ⟨h', e, r, F⟩ := b_clear h1 d
  exact ⟨h', e, F, W, N, r, fun i p hp => by simp at hp⟩
theorem bk_isLike {a : Nat} {vs : List wd} (hb : bok ws) (hb2 : bok vs) (H : bkR h b ws) (G : bkR h a vs) (d : Nat) : am_cI d N_bk_isLike [.inr (.inr (some (b))), .inr (.inr (some (a)))] h = some (if ws = vs then 1 else 0, h) := by
  obtain ⟨W, N, h1, h2⟩ := H
  obtain ⟨V, M, g1, g2⟩ := G
  obtain ⟨r, e, hr⟩ := b_isLike h1 g1 d
  rw [e]
  have hiff : (ws.length = vs.length ∧ ∀ i, i < ws.length → W i = V i ∧ N i = M i) ↔ ws = vs := by
    constructor
    · rintro ⟨c1, c2⟩
      refine List.ext_getElem? (fun i => ?_)
      by_cases c : i < ws.length
      · have e1 := gt_some c
        have e2 := gt_some (show i < vs.length by omega)
        obtain ⟨a1, a2⟩ := hb.1 _ (List.mem_of_getElem? e1)
        obtain ⟨b1, b2⟩ := hb2.1 _ (List.mem_of_getElem? e2)
        obtain ⟨k1, k2⟩ := c2 i c
        rw [(h2 i _ e1).1, (g2 i _ e2).1] at k1
        rw [(h2 i _ e1).2, (g2 i _ e2).2] at k2
        have k3 := ec_inj a1 b1 a2 b2 k1
        rw [e1, e2, Prod.ext k3 k2]
      · rw [List.getElem?_eq_none (by omega), List.getElem?_eq_none (by omega)]
    · rintro rfl
      refine ⟨rfl, fun i hi => ?_⟩
      have e1 := gt_some hi
      rw [(h2 i _ e1).1, (h2 i _ e1).2, (g2 i _ e1).1, (g2 i _ e1).2]
      exact ⟨rfl, rfl⟩
  rcases hr with ⟨rfl, c1, c2⟩ | ⟨rfl, c⟩
  · rw [if_pos (hiff.mp ⟨c1, c2⟩)]
  · rw [if_neg (fun g => c (hiff.mpr g))]
theorem fi_ext {G G' : Int → Nat → Int} : ∀ (k a : Nat) (acc : Int), (∀ i s, a ≤ i → i < a + k → G s i = G' s i) → fi G a k acc = fi G' a k acc
  | 0, a, acc, _ => rfl
  | k + 1, a, acc, h => by
    show fi G (a + 1) k (G acc a) = fi G' (a + 1) k (G' acc a)
    rw [h a acc (Nat.le_refl _) (by omega)]
    exact fi_ext k (a + 1) _ (fun i s h1 h2 => h i s (by omega) (by omega))
theorem fi_fold {G : Int → wd → Int} (l : List wd) : ∀ (k a : Nat) (acc : Int), a + k = l.length → fi (fun s i => G s (l.getD i ([], 0))) a k acc = (l.drop a).foldl G acc
  | 0, a, acc, h => by rw [List.drop_of_length_le (by omega)]; rfl
  | k + 1, a, acc, h => by
    have hlt : a < l.length := by omega
    show fi (fun s i => G s (l.getD i ([], 0))) (a + 1) k (G acc (l.getD a ([], 0))) = _
    rw [fi_fold l k (a + 1) _ (by omega)]
    conv => rhs; rw [List.drop_eq_getElem_cons hlt]
    rw [List.foldl_cons]
    congr 2
    rw [List.getD_eq_getElem?_getD, List.getElem?_eq_getElem hlt]
    rfl
theorem bk_num (h2 : ∀ i p, ws[i]? = some p → W i = ec 10 p.1 ∧ N i = p.2) {i : Nat} (hi : i < ws.length) : N i = num ws i := (h2 i _ (gt_some hi)).2
theorem bk_total (hk : ∀ p ∈ ws, wk p) (H : bkR h b ws) {x y : Nat} (hx : x ≤ 100) (hy : y ≤ ws.length) (d : Nat) : am_cI d N_bk_total [.inr (.inr (some (b))), .inl ((x : Int)), .inl ((y : Int))] h = some (fi (fun s i => s + num ws i) x (y - x) 0, h) := by
  obtain ⟨W, N, h1, h2⟩ := H
  rw [b_total h1 (fun i hi => by
    rw [(h2 i _ (gt_some hi)).2]
    have := (hk _ (List.mem_of_getElem? (gt_some hi))).2.2.2
    exact this) d hx hy]
  rw [fi_ext _ _ _ (fun i s g1 g2 => by rw [bk_num h2 (show i < ws.length by omega)])]
theorem bk_least (H : bkR h b ws) {x y : Nat} (hx : x ≤ 100) (hy : y ≤ ws.length) (d : Nat) : am_cI d N_bk_least [.inr (.inr (some (b))), .inl ((x : Int)), .inl ((y : Int))] h = some (fi (fun s i => am_min s (num ws i)) x (y - x) 999999, h) := by
  obtain ⟨W, N, h1, h2⟩ := H
  rw [b_least h1 d hx hy]
  rw [fi_ext _ _ _ (fun i s g1 g2 => by rw [bk_num h2 (show i < ws.length by omega)])]
theorem bk_greatest (H : bkR h b ws) {x y : Nat} (hx : x ≤ 100) (hy : y ≤ ws.length) (d : Nat) : am_cI d N_bk_greatest [.inr (.inr (some (b))), .inl ((x : Int)), .inl ((y : Int))] h = some (fi (fun s i => am_max s (num ws i)) x (y - x) 0, h) := by
  obtain ⟨W, N, h1, h2⟩ := H
  rw [b_greatest h1 d hx hy]
  rw [fi_ext _ _ _ (fun i s g1 g2 => by rw [bk_num h2 (show i < ws.length by omega)])]
theorem bk_leastNumber (H : bkR h b ws) (d : Nat) : am_cI (d + 1) N_bk_leastNumber [.inr (.inr (some (b)))] h = some (lst ws [], h) := by
  obtain ⟨W, N, h1, h2⟩ := H
  rw [b_leastNumber h1 d]
  have hsb : sb ws [] = ws := by unfold sb; rw [List.filter_eq_self]; intro a _; rfl
  unfold lst
  rw [hsb]
  by_cases c : ws = []
  · rw [if_pos (by rw [c]; rfl), if_pos c]
  · have hl := List.length_pos_iff.mpr c
    rw [if_neg (by omega), if_neg c, fi_ext _ _ _ (fun i s g1 g2 => by rw [bk_num h2 (show i < ws.length by omega)])]
    have := fi_fold (G := fun s q => am_min s q.2) ws ws.length 0 999999 (by omega)
    rw [List.drop_zero] at this
    rw [← this]
    rfl
theorem bk_totalAll (hk : ∀ p ∈ ws, wk p) (H : bkR h b ws) (d : Nat) : am_cI d N_bk_total [.inr (.inr (some (b))), .inl (0), .inl ((ws.length : Int))] h = some (sumN ws, h) := by
  have h1 := bk_total hk H (x := 0) (y := ws.length) (by omega) (Nat.le_refl _) d
  have h1' : am_cI d N_bk_total [.inr (.inr (some (b))), .inl (0), .inl ((ws.length : Int))] h = some (fi (fun s i => s + num ws i) 0 (ws.length - 0) 0, h) := h1
  rw [h1']
  have := fi_fold (G := fun s q => s + q.2) ws ws.length 0 0 (by omega)
  rw [List.drop_zero] at this
  unfold sumN
  rw [← this, Nat.sub_zero]
  rfl
theorem bk_betterThan (H : bkR h b ws) {p x y : Nat} (hp : p < ws.length) (hx : x ≤ 100) (hy : y ≤ ws.length) (d : Nat) : am_cI d N_bk_betterThan [.inr (.inr (some (b))), .inl ((p : Int)), .inl ((x : Int)), .inl ((y : Int))] h = some (fi (fun s i => if btr (num ws) p i = true then s + 1 else s) x (y - x) 0, h) := by
  obtain ⟨W, N, h1, h2⟩ := H
  rw [b_betterThan h1 d hp hx hy]
  rw [fi_ext _ _ _ (fun i s g1 g2 => by
    have e : btr N p i = btr (num ws) p i := by unfold btr; rw [bk_num h2 (show i < ws.length by omega), bk_num h2 hp]
    rw [e])]
theorem bk_lastWord (H : bkR h b ws) (d : Nat) : am_cL d N_bk_lastWord [.inr (.inr (some (b)))] h = some (ec 10 (lastw ws), h) := by
  obtain ⟨W, N, h1, h2⟩ := H
  rw [b_lastWord h1 d]
  unfold lastw
  by_cases c : ws.length = 0
  · have : ws = [] := List.eq_nil_of_length_eq_zero c
    rw [if_pos c, this]
    rfl
  · have hg := gt_some (show ws.length - 1 < ws.length by omega)
    rw [if_neg c, (h2 _ _ hg).1]
    have : ws.getLastD ([], 0) = ws.getD (ws.length - 1) ([], 0) := by
      rw [List.getLastD_eq_getLast?, List.getLast?_eq_getElem?, hg]
      rfl
    rw [this]
theorem bk_has (H : bkR h b ws) (x : Int) (d : Nat) : am_cI d N_bk_has [.inr (.inr (some (b))), .inl (x)] h = some (if 0 ≤ x ∧ x < ws.length then 1 else 0, h) := by
  obtain ⟨W, N, h1, h2⟩ := H
  exact b_has h1 d x
end BL
