/-! the model: places, entering, taking out, telling -/
section MD
variable {m : Nat} {g : am_H} {S : Nat → Nat → Int} {q j n o : Nat} {ws : List wd}
theorem isRow.r (hq : isRow m q j n) (g : am_H) (S : Nat → Nat → Int) (i : Int) (a : 0 ≤ i) (b : i < n) : am_lI (MH m g S) q i = some (S j i.toNat) := (hq g S i a b).1
theorem isRow.w (hq : isRow m q j n) (g : am_H) (S : Nat → Nat → Int) (i x : Int) (a : 0 ≤ i) (b : i < n) : am_sI (MH m g S) q i x = some (MH m g (am_fu S j (am_fu (S j) i.toNat x))) := (hq g S i a b).2 x
theorem md_placeOf (hq : isRow m q j n) (hn : n < 100000) (H : ml n (S j) o ws) (hk : ∀ p ∈ ws, wk p) {t : List Int} (T : toldR S t) (ht : wl t) (d : Nat) : am_cI (d + 2) N_md_placeOf [.inr (.inr (some (m))), .inr (.inr (some (q))), .inl ((o : Int))] (MH m g S) = some ((ah ws t : Int), MH m g S) := by
  have hle := ah_le ws t
  have h1 := H.1
  have h2 := H.2.1
  apply am_cI_of
  simp (disch := omega) only [en_md_placeOf, B_md_placeOf_0, Option.bind_some, if_true, if_false, eq_self, not_true_eq_false, not_false_eq_true, am_w_id, if_pos, if_neg, fu_self, fu_ne, Int.toNat_natCast]
  have loop := am_for (F := fun k => EV (d + 2) N_md_placeOf T_md_placeOf_2 [.inr (.inr (some (m))), .inr (.inr (some (q))), .inl ((o : Int)), .inl ((k : Int))] [] (MH m g S)) (k := 0) (n := ah ws t) (Nat.zero_le _) (fun k _ hk2 => by
    have hget : ws[k]? = some ws[k] := List.getElem?_eq_getElem (by omega)
    have hlt := ah_lt ws t k _ hk2 hget
    have hc := (cw_gt t ws[k].1).mpr hlt
    (try dsimp only); rw [B_md_placeOf_2]; simp (disch := omega) only [B_md_placeOf_9, B_md_placeOf_19, Option.bind_some, if_true, if_false, eq_self, not_true_eq_false, not_false_eq_true, am_w_id, if_pos, if_neg, fu_self, fu_ne, Int.toNat_natCast, m_O, hq.r, h1, md_against hq hn H hget (hk _ (List.getElem_mem (by omega))) T ht]
    rfl)
  refine loop.trans ?_
  by_cases c : ah ws t = ws.length
  · simp (disch := omega) only [B_md_placeOf_2, B_md_placeOf_25, Option.bind_some, if_true, if_false, eq_self, not_true_eq_false, not_false_eq_true, am_w_id, if_pos, if_neg, fu_self, fu_ne, Int.toNat_natCast, hq.r, h1]
  · have hget : ws[ah ws t]? = some (ws[ah ws t]'(by omega)) := List.getElem?_eq_getElem (by omega)
    have hlt := ah_at ws t _ hget
    have hc : ¬ 0 < cw t (ws[ah ws t]'(by omega)).1 := fun g => by rw [(cw_gt _ _).mp g] at hlt; exact Bool.noConfusion hlt
    simp (disch := omega) only [B_md_placeOf_2, B_md_placeOf_9, B_md_placeOf_25, Option.bind_some, if_true, if_false, eq_self, not_true_eq_false, not_false_eq_true, am_w_id, if_pos, if_neg, fu_self, fu_ne, Int.toNat_natCast, m_O, hq.r, h1, md_against hq hn H hget (hk _ (List.getElem_mem (by omega))) T ht]
theorem md_isThere (hq : isRow m q j n) (hn : n < 100000) (H : ml n (S j) o ws) (hk : ∀ p ∈ ws, wk p) {t : List Int} (T : toldR S t) (ht : wl t) (d : Nat) : am_cI (d + 2) N_md_isThere [.inr (.inr (some (m))), .inr (.inr (some (q))), .inl ((o : Int)), .inl ((ah ws t : Int))] (MH m g S) = some (if nu ws t = none then 0 else 1, MH m g S) := by
  have hle := ah_le ws t
  have h1 := H.1
  have h2 := H.2.1
  apply am_cI_of
  by_cases c : ah ws t = ws.length
  · have e : nu ws t = none := by unfold nu; rw [List.getElem?_eq_none (by omega)]
    simp (disch := omega) only [en_md_isThere, B_md_isThere_0, B_md_isThere_21, B_md_isThere_22, Option.bind_some, if_true, if_false, eq_self, not_true_eq_false, not_false_eq_true, am_w_id, if_pos, if_neg, fu_self, fu_ne, Int.toNat_natCast, hq.r, h1, e]
  · have hget : ws[ah ws t]? = some (ws[ah ws t]'(by omega)) := List.getElem?_eq_getElem (by omega)
    have hag := md_against (g := g) hq hn H hget (hk _ (List.getElem_mem (by omega))) T ht
    by_cases c2 : t = (ws[ah ws t]'(by omega)).1
    · have hc := (cw_eq _ _).mpr c2
      have e : nu ws t ≠ none := by unfold nu; rw [hget]; dsimp only; rw [if_pos c2.symm]; simp
      simp (disch := omega) only [en_md_isThere, B_md_isThere_0, B_md_isThere_7, B_md_isThere_17, B_md_isThere_22, Option.bind_some, if_true, if_false, eq_self, not_true_eq_false, not_false_eq_true, am_w_id, if_pos, if_neg, fu_self, fu_ne, Int.toNat_natCast, m_O, hq.r, h1, hag, e, hc]
    · have hc : cw t (ws[ah ws t]'(by omega)).1 ≠ 0 := fun g => c2 ((cw_eq _ _).mp g)
      have e : nu ws t = none := by unfold nu; rw [hget]; dsimp only; rw [if_neg (fun g => c2 g.symm)]
      simp (disch := omega) only [en_md_isThere, B_md_isThere_0, B_md_isThere_7, B_md_isThere_21, B_md_isThere_22, Option.bind_some, if_true, if_false, eq_self, not_true_eq_false, not_false_eq_true, am_w_id, if_pos, if_neg, fu_self, fu_ne, Int.toNat_natCast, m_O, hq.r, h1, hag, e, hc]
/-- the row behind the first loop of puts: what stands above k has moved twelve up -/
def shu (f : Nat → Int) (top k : Nat) : Nat → Int := fun i => if k + 12 < i ∧ i ≤ top + 12 then f (i - 12) else f i
/-- the row with the first k letters of a word -/
def wlt (f : Nat → Int) (b : Nat) (t : List Int) (k : Nat) : Nat → Int := fun i => if b + 2 ≤ i ∧ i < b + 2 + k then t.getD (i - (b + 2)) 0 else f i
theorem wlt0 (f : Nat → Int) (b : Nat) (t : List Int) : wlt f b t 0 = f := by
  funext i
  unfold wlt
  rw [if_neg (by omega)]
theorem md_puts (hq : isRow m q j n) (hn : n < 100000) (H : ml n (S j) o ws) (hk : ∀ p ∈ ws, wk p) {t : List Int} (T : toldR S t) (ht : wl t) (hl : t.length ≤ 10) (hj8 : j ≠ 8) (hj7 : j ≠ 7) (hr : o + 13 + 12 * ws.length ≤ n) (d : Nat) (x : Int) :
    ∃ f, am_cV (d + 3) N_md_puts [.inr (.inr (some (m))), .inr (.inr (some (q))), .inl ((o : Int)), .inl (x)] (MH m g S) = some (MH m g (am_fu S j f)) ∧ ml n f o (put ws t x) ∧ ∀ i, (i < o ∨ o + 1 + 12 * (put ws t x).length ≤ i) → f i = S j i := by
  have hle := ah_le ws t
  have h1 := H.1
  have h2 := H.2.1
  have hpl := put_len ws t x
  -- the second half: the word's own row
  have fin : ∀ (f : Nat → Int) (x5 x6 : am_V), EV (d + 3) N_md_puts T_md_puts_71 [.inr (.inr (some (m))), .inr (.inr (some (q))), .inl ((o : Int)), .inl (x), .inl ((ah ws t : Int)), x5, x6] [] (MH m g (am_fu S j f)) = some (none, MH m g (am_fu S j (wlt (am_fu (am_fu f (o + 1 + 12 * ah ws t) t.length) (o + 1 + 12 * ah ws t + 1) x) (o + 1 + 12 * ah ws t) t 10))) := by
    intro f x5 x6
    have e1 : ((o : Int) + 1 + 12 * (ah ws t : Int)).toNat = o + 1 + 12 * ah ws t := by omega
    have e2 : ((o : Int) + 1 + 12 * (ah ws t : Int) + 1).toNat = o + 1 + 12 * ah ws t + 1 := by omega
    simp (disch := omega) only [B_md_puts_71, Option.bind_some, if_true, if_false, eq_self, not_true_eq_false, not_false_eq_true, am_w_id, if_pos, if_neg, fu_self, fu_ne, Int.toNat_natCast, m_gI_8, m_p_8, hq.w, T.1, e1, e2, fu_fu]
    generalize am_fu (am_fu f (o + 1 + 12 * ah ws t) ↑t.length) (o + 1 + 12 * ah ws t + 1) x = f2
    have loop := am_for (F := fun k => EV (d + 3) N_md_puts T_md_puts_100 [.inr (.inr (some (m))), .inr (.inr (some (q))), .inl ((o : Int)), .inl (x), .inl ((ah ws t : Int)), .inl ((o : Int) + 1 + 12 * (ah ws t : Int)), .inl ((k : Int))] [] (MH m g (am_fu S j (wlt f2 (o + 1 + 12 * ah ws t) t k)))) (k := 0) (n := 10) (by omega) (fun k _ hk2 => by
      have e3 : ((o : Int) + 1 + 12 * (ah ws t : Int) + 2 + (k : Int)).toNat = o + 1 + 12 * ah ws t + 2 + k := by omega
      have e4 : am_fu (wlt f2 (o + 1 + 12 * ah ws t) t k) (o + 1 + 12 * ah ws t + 2 + k) (t.getD k 0) = wlt f2 (o + 1 + 12 * ah ws t) t (k + 1) := by
        funext i
        unfold am_fu wlt
        by_cases c : i = o + 1 + 12 * ah ws t + 2 + k
        · rw [if_pos c, if_pos (by omega), c]; congr 1; omega
        · rw [if_neg c]
          by_cases c2 : o + 1 + 12 * ah ws t + 2 ≤ i ∧ i < o + 1 + 12 * ah ws t + 2 + k
          · rw [if_pos c2, if_pos (by omega)]
          · rw [if_neg c2, if_neg (by omega)]
      by_cases c : k < t.length
      · (try dsimp only); rw [B_md_puts_100]; simp (disch := omega) only [B_md_puts_107, B_md_puts_124, B_md_puts_135, Option.bind_some, if_true, if_false, eq_self, not_true_eq_false, not_false_eq_true, am_w_id, if_pos, if_neg, fu_self, fu_ne, Int.toNat_natCast, m_gI_8, m_p_8, m_gR_7, m_l_7, m_s_7, hq.w, T.1, e3, T.2.2 k c, e4, fu_fu]
        rfl
      · have e5 : t.getD k 0 = 0 := by rw [List.getD_eq_getElem?_getD, List.getElem?_eq_none (by omega)]; rfl
        rw [e5] at e4
        (try dsimp only); rw [B_md_puts_100]; simp (disch := omega) only [B_md_puts_107, B_md_puts_134, B_md_puts_135, Option.bind_some, if_true, if_false, eq_self, not_true_eq_false, not_false_eq_true, am_w_id, if_pos, if_neg, fu_self, fu_ne, Int.toNat_natCast, m_gI_8, m_p_8, hq.w, T.1, e3, e4, fu_fu]
        rfl)
    rw [wlt0] at loop
    refine loop.trans ?_
    simp (disch := omega) only [B_md_puts_100, B_md_puts_142, Option.bind_some, if_true, if_false, eq_self, not_true_eq_false, not_false_eq_true, am_w_id, if_pos, if_neg, fu_self, fu_ne, Int.toNat_natCast]
  have wr : ∀ (f : Nat → Int), wrow (wlt (am_fu (am_fu f (o + 1 + 12 * ah ws t) t.length) (o + 1 + 12 * ah ws t + 1) x) (o + 1 + 12 * ah ws t) t 10) (o + 1 + 12 * ah ws t) (t, x) := by
    intro f
    refine ⟨?_, ?_, fun i hi => ?_⟩
    · unfold wlt am_fu; rw [if_neg (by omega), if_neg (by omega), if_pos rfl]
    · unfold wlt am_fu; rw [if_neg (by omega), if_pos rfl]
    · unfold wlt; rw [if_pos (by omega)]; congr 1; omega
  have out : ∀ (f : Nat → Int) (i : Nat), (i < o + 1 + 12 * ah ws t ∨ o + 13 + 12 * ah ws t ≤ i) → wlt (am_fu (am_fu f (o + 1 + 12 * ah ws t) t.length) (o + 1 + 12 * ah ws t + 1) x) (o + 1 + 12 * ah ws t) t 10 i = f i := by
    intro f i hi
    unfold wlt am_fu
    rw [if_neg (by omega), if_neg (by omega), if_neg (by omega)]
  have wro : ∀ (f f' : Nat → Int) (b b' : Nat) (p : wd), wrow f b p → (∀ i, i < 12 → f' (b' + i) = f (b + i)) → wrow f' b' p := by
    intro f f' b b' p hw h
    refine ⟨?_, ?_, fun i hi => ?_⟩
    · have := h 0 (by omega); rw [Nat.add_zero, Nat.add_zero] at this; rw [this]; exact hw.1
    · rw [h 1 (by omega)]; exact hw.2.1
    · rw [Nat.add_assoc, h (2 + i) (by omega), ← Nat.add_assoc]; exact hw.2.2 i hi
  have pl := md_placeOf (g := g) hq hn H hk T ht d
  have it := md_isThere (g := g) hq hn H hk T ht d
  by_cases c : nu ws t = none
  · rw [if_pos c] at hpl
    simp only [if_pos c] at it
    have loop := am_ford (F := fun k => EV (d + 3) N_md_puts T_md_puts_33 [.inr (.inr (some (m))), .inr (.inr (some (q))), .inl ((o : Int)), .inl (x), .inl ((ah ws t : Int)), .inl ((k : Int)), am_nul] [] (MH m g (am_fu S j (shu (S j) (o + 12 * ws.length) k)))) (k := o + 12 * ah ws t) (n := o + 12 * ws.length) (by omega) (fun k hk1 hk2 => by
      have e1 : (((k + 1 : Nat) : Int) + 12).toNat = k + 1 + 12 := by omega
      have e2 : am_fu (shu (S j) (o + 12 * ws.length) (k + 1)) (k + 1 + 12) (shu (S j) (o + 12 * ws.length) (k + 1) (k + 1)) = shu (S j) (o + 12 * ws.length) k := by
        funext i
        unfold am_fu shu
        by_cases c : i = k + 1 + 12
        · rw [if_pos c, if_neg (by omega), if_pos (by omega), c]; congr 1
        · rw [if_neg c]
          by_cases c2 : k + 1 + 12 < i ∧ i ≤ o + 12 * ws.length + 12
          · rw [if_pos c2, if_pos (by omega)]
          · rw [if_neg c2, if_neg (by omega)]
      have e3 : ((k + 1 : Nat) : Int) + (-1) = (k : Int) := by omega
      (try dsimp only); rw [B_md_puts_33]; simp (disch := omega) only [B_md_puts_47, Option.bind_some, if_true, if_false, eq_self, not_true_eq_false, not_false_eq_true, am_w_id, if_pos, if_neg, fu_self, fu_ne, Int.toNat_natCast, hq.r, hq.w, e1, e2, e3, fu_fu])
    have e0 : shu (S j) (o + 12 * ws.length) (o + 12 * ws.length) = S j := by
      funext i
      unfold shu
      rw [if_neg (by omega)]
    rw [e0, fu_eta] at loop
    have e1 : (o : Int) + 1 + 12 * (ws.length : Int) - 1 = ((o + 12 * ws.length : Nat) : Int) := by omega
    have e5 : shu (S j) (o + 12 * ws.length) (o + 12 * ah ws t) o = (ws.length : Int) := by unfold shu; rw [if_neg (by omega), h1]
    refine ⟨wlt (am_fu (am_fu (am_fu (shu (S j) (o + 12 * ws.length) (o + 12 * ah ws t)) o ((ws.length : Int) + 1)) (o + 1 + 12 * ah ws t) t.length) (o + 1 + 12 * ah ws t + 1) x) (o + 1 + 12 * ah ws t) t 10, am_cV_of ?_, ?_, ?_⟩
    · have hf := fin (am_fu (shu (S j) (o + 12 * ws.length) (o + 12 * ah ws t)) o ((ws.length : Int) + 1)) (.inl ((o + 12 * ah ws t : Nat) : Int)) am_nul
      simp (disch := omega) only [en_md_puts, B_md_puts_0, B_md_puts_19, Option.bind_some, if_true, if_false, eq_self, not_true_eq_false, not_false_eq_true, am_w_id, if_pos, if_neg, fu_self, fu_ne, Int.toNat_natCast, m_O, pl, it, hq.r, h1, e1]
      refine loop.trans ?_
      simp (disch := omega) only [B_md_puts_33, B_md_puts_64, Option.bind_some, if_true, if_false, eq_self, not_true_eq_false, not_false_eq_true, am_w_id, if_pos, if_neg, fu_self, fu_ne, Int.toNat_natCast, hq.r, hq.w, e5, fu_fu]
      exact hf
    · generalize hf : am_fu (shu (S j) (o + 12 * ws.length) (o + 12 * ah ws t)) o ((ws.length : Int) + 1) = f1
      have ho : ∀ i, i ≠ o → f1 i = shu (S j) (o + 12 * ws.length) (o + 12 * ah ws t) i := fun i hi => by rw [← hf, fu_ne hi]
      refine ⟨?_, by omega, fun w p hp => ?_⟩
      · rw [out f1 o (by omega), ← hf, fu_self]; omega
      · rw [put_get] at hp
        by_cases c1 : w < ah ws t
        · rw [if_pos c1] at hp
          refine wro (S j) _ _ _ _ (H.2.2 w p hp) (fun i hi => ?_)
          rw [out f1 _ (by omega), ho _ (by omega)]
          unfold shu
          rw [if_neg (by omega)]
        · rw [if_neg c1] at hp
          by_cases c2 : w = ah ws t
          · rw [if_pos c2] at hp
            injection hp with hp
            rw [← hp, c2]
            exact wr f1
          · rw [if_neg c2, if_pos c] at hp
            have hlt := (List.getElem?_eq_some_iff.mp hp).1
            refine wro (S j) _ _ _ _ (H.2.2 (w - 1) p hp) (fun i hi => ?_)
            rw [out f1 _ (by omega), ho _ (by omega)]
            unfold shu
            rw [if_pos (by omega)]
            congr 1
            omega
    · intro i hi
      rw [out _ _ (by omega), fu_ne (by omega)]
      unfold shu
      rw [if_neg (by omega)]
  · rw [if_neg c] at hpl
    simp only [if_neg c] at it
    have hx : ah ws t < ws.length := by
      obtain ⟨y, hy⟩ := Option.ne_none_iff_exists'.mp c
      exact (List.getElem?_eq_some_iff.mp (nu_some hy)).1
    refine ⟨wlt (am_fu (am_fu (S j) (o + 1 + 12 * ah ws t) t.length) (o + 1 + 12 * ah ws t + 1) x) (o + 1 + 12 * ah ws t) t 10, am_cV_of ?_, ?_, ?_⟩
    · have hf := fin (S j) am_nul am_nul
      rw [fu_eta] at hf
      simp (disch := omega) only [en_md_puts, B_md_puts_0, Option.bind_some, if_true, if_false, eq_self, not_true_eq_false, not_false_eq_true, am_w_id, if_pos, if_neg, fu_self, fu_ne, Int.toNat_natCast, m_O, pl, it]
      exact hf
    · refine ⟨?_, by omega, fun w p hp => ?_⟩
      · rw [out (S j) o (by omega), h1]; omega
      · rw [put_get] at hp
        by_cases c1 : w < ah ws t
        · rw [if_pos c1] at hp
          refine wro (S j) _ _ _ _ (H.2.2 w p hp) (fun i hi => ?_)
          rw [out (S j) _ (by omega)]
        · rw [if_neg c1] at hp
          by_cases c2 : w = ah ws t
          · rw [if_pos c2] at hp
            injection hp with hp
            rw [← hp, c2]
            exact wr (S j)
          · rw [if_neg c2, if_neg c] at hp
            refine wro (S j) _ _ _ _ (H.2.2 w p hp) (fun i hi => ?_)
            rw [out (S j) _ (by omega)]
    · intro i hi
      rw [out _ _ (by omega)]
end MD
