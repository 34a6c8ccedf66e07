/-! bytes that were packed, read again -/
def pfx (t : List Int) (a : Nat) (l : List Int) : Prop := l <+: t.drop a
theorem pfx_app {t : List Int} {a : Nat} {l r : List Int} (h : pfx t a (l ++ r)) : pfx t a l ∧ pfx t (a + l.length) r := by
  unfold pfx at *
  refine ⟨(List.prefix_append l r).trans h, ?_⟩
  obtain ⟨s, hs⟩ := h
  rw [List.append_assoc] at hs
  refine ⟨s, ?_⟩
  rw [← List.drop_drop, ← hs, List.drop_left]
theorem pfx_hd {t : List Int} {a : Nat} {x : Int} {l : List Int} (h : pfx t a (x :: l)) : a < t.length ∧ t.getD a 0 = x ∧ pfx t (a + 1) l := by
  have h0 : pfx t a ([x] ++ l) := h
  obtain ⟨h1, h2⟩ := pfx_app h0
  obtain ⟨s, hs⟩ := h
  have hlen : a < t.length := by
    have := congrArg List.length hs
    rw [List.length_append, List.length_cons, List.length_drop] at this
    omega
  refine ⟨hlen, ?_, h2⟩
  rw [dr_cons hlen, List.cons_append] at hs
  injection hs with hs _
  exact hs.symm
theorem rdV_enc {t : List Int} {a0 : Nat} : ∀ (n m a : Nat) (v w : Int), n ≤ 4 → n ≤ m + 1 → 0 ≤ w → w < 128 ^ n → 1 ≤ n → pfx t a (enF m w) → rdV t a0 n a v = .inr (a + (enF m w).length, v + w * 128 ^ (4 - n))
  | 0, m, a, v, w, h4, hm, h0, h1, hn, hp => by omega
  | n + 1, m, a, v, w, h4, hm, h0, h1, hn, hp => by
    unfold rdV
    by_cases c : w ≤ 127
    · have e : enF m w = [w] := by
        cases m with
        | zero => rfl
        | succ m => unfold enF; rw [if_pos c]
      rw [e] at hp ⊢
      obtain ⟨g1, g2, _⟩ := pfx_hd hp
      rw [if_neg (by omega), g2, if_pos c, show 4 - (n + 1) = 3 - n by omega]
      rfl
    · have hn1 : 1 ≤ n := by
        rcases Nat.eq_zero_or_pos n with h | h
        · subst h; rw [show (128 : Int) ^ (0 + 1) = 128 from rfl] at h1; omega
        · exact h
      obtain ⟨m', rfl⟩ : ∃ m', m = m' + 1 := ⟨m - 1, by omega⟩
      have e : enF (m' + 1) w = (w % 128 + 128) :: enF m' (w / 128) := by rw [enF, if_neg c]
      rw [e] at hp ⊢
      obtain ⟨g1, g2, g3⟩ := pfx_hd hp
      rw [if_neg (by omega), g2, if_neg (by omega), rdV_enc n m' (a + 1) _ (w / 128) (by omega) (by omega) (by omega) (Int.ediv_lt_of_lt_mul (by decide) (by rw [← Int.pow_succ]; exact h1)) hn1 g3]
      rw [List.length_cons]
      have e4 : 4 - n = (3 - n) + 1 := by omega
      have e5 : 4 - (n + 1) = 3 - n := by omega
      have hv : v + (w % 128 + 128 - 128) * 128 ^ (3 - n) + w / 128 * 128 ^ (4 - n) = v + w * 128 ^ (4 - (n + 1)) := by
        rw [e4, e5, Int.pow_succ, Int.add_assoc]
        congr 1
        generalize (128 : Int) ^ (3 - n) = P
        have hw : w = (w % 128 + 128 - 128) + w / 128 * 128 := by omega
        conv => rhs; rw [hw]
        rw [Int.add_mul, Int.mul_assoc, Int.mul_comm 128 P]
      rw [hv, show a + 1 + (enF m' (w / 128)).length = a + ((enF m' (w / 128)).length + 1) by omega]
theorem rdN_enc {t : List Int} {a : Nat} {lo hi v : Int} (h0 : 0 ≤ v) (h1 : v < 268435456) (hl : lo ≤ v) (hh : v ≤ hi) (hp : pfx t a (enc v)) : rdN t a lo hi = .inr (a + (enc v).length, v) := by
  unfold rdN
  rw [rdV_enc 4 4 a 0 v (by omega) (by omega) h0 (by rw [show (128 : Int) ^ 4 = 268435456 by decide]; exact h1) (by omega) hp]
  dsimp only
  rw [show (0 : Int) + v * 128 ^ (4 - 4) = v by simp, if_pos ⟨hl, hh⟩]
  rfl
def enA (x : arc) : List Int := enc x.1 ++ (enc x.2.1 ++ enc x.2.2)
def enS (x : sta) : List Int := (enc (2 * (x.2.length : Int) + (if x.1 = -2 then 0 else 1)) ++ (if x.1 = -2 then [] else enc x.1)) ++ x.2.flatMap enA
def enM (u : Int) (ss : List sta) : List Int := enc (ss.length : Int) ++ (enc u ++ ss.flatMap enS)
theorem rdA_enc {t : List Int} {q : Int} (hq : q ≤ 1001) : ∀ (as : List arc) (a : Nat) (l : Int), arOK q as → 0 ≤ l → (∀ y ∈ as, l < y.1) → pfx t a (as.flatMap enA) → rdA t q as.length a l = .inr (a + (as.flatMap enA).length, as)
  | [], a, l, _, _, _, _ => rfl
  | x :: as, a, l, ho, h0, hl, hp => by
    rw [List.flatMap_cons] at hp ⊢
    obtain ⟨p1, p2⟩ := pfx_app hp
    obtain ⟨p3, p4⟩ := pfx_app p1
    obtain ⟨p5, p6⟩ := pfx_app p4
    obtain ⟨o1, o2, o3⟩ := ho.1 x List.mem_cons_self
    obtain ⟨w1, w2⟩ := List.pairwise_cons.mp ho.2
    have hlx := hl x List.mem_cons_self
    rw [List.length_cons, rdA, rdN_enc (by omega) (by omega) (by omega) (by omega) p3]
    dsimp only
    rw [rdN_enc (by omega) (by omega) (by omega) (by omega) p5]
    dsimp only
    rw [rdN_enc (by omega) (by omega) (by omega) (by omega) p6]
    dsimp only
    have e : a + (enc x.1).length + (enc x.2.1).length + (enc x.2.2).length = a + (enA x).length := by unfold enA; rw [List.length_append, List.length_append]; omega
    rw [e, rdA_enc hq as _ x.1 ⟨fun y hy => ho.1 y (List.mem_cons_of_mem _ hy), w2⟩ (by omega) w1 p2]
    rw [List.length_append, Nat.add_assoc]
theorem arc_len2 : ∀ (as : List arc) (l : Int), (∀ y ∈ as, l < y.1 ∧ y.1 ≤ 26) → as.Pairwise (fun a b => a.1 < b.1) → l ≤ 26 → (as.length : Int) ≤ 26 - l
  | [], l, _, _, h => by simp; omega
  | x :: as, l, h1, h2, h => by
    obtain ⟨w1, w2⟩ := List.pairwise_cons.mp h2
    have hx := h1 x List.mem_cons_self
    have := arc_len2 as x.1 (fun y hy => ⟨w1 y hy, (h1 y (List.mem_cons_of_mem _ hy)).2⟩) w2 hx.2
    rw [List.length_cons]
    omega
theorem arc_len {q : Int} {as : List arc} (h : arOK q as) : as.length ≤ 26 := by
  have := arc_len2 as 0 (fun y hy => by have := (h.1 y hy).1; omega) h.2 (by omega)
  omega
theorem rdS_enc {t : List Int} {q : Int} (hq : q ≤ 1001) {x : sta} {a : Nat} (h : stOK q x) (hp : pfx t a (enS x)) : rdS t q a = .inr (a + (enS x).length, x) := by
  have h26 := arc_len h.2
  obtain ⟨x1, x2⟩ := x
  unfold rdS
  unfold enS at hp ⊢
  dsimp only at h h26 hp ⊢
  by_cases c : x1 = -2
  · rw [if_pos c, if_pos c, List.append_nil] at hp ⊢
    obtain ⟨p1, p2⟩ := pfx_app hp
    rw [rdN_enc (by omega) (by omega) (by omega) (by omega) p1]
    dsimp only
    rw [if_neg (by omega), show ((2 * (x2.length : Int) + 0) / 2).toNat = x2.length by omega, rdA_enc hq x2 _ 0 h.2 (by omega) (fun y hy => by have := (h.2.1 y hy).1.1; omega) p2]
    dsimp only
    rw [List.length_append, c, Nat.add_assoc]
  · rw [if_neg c, if_neg c] at hp ⊢
    obtain ⟨p1, p2⟩ := pfx_app hp
    obtain ⟨p3, p4⟩ := pfx_app p1
    have he := h.1.resolve_left c
    dsimp only at he
    rw [rdN_enc (by omega) (by omega) (by omega) (by omega) p3]
    dsimp only
    rw [if_pos (by omega), rdN_enc (by omega) (by omega) (by omega) (by omega) p4]
    dsimp only
    rw [List.length_append, ← Nat.add_assoc] at p2
    rw [show ((2 * (x2.length : Int) + 1) / 2).toNat = x2.length by omega, rdA_enc hq x2 _ 0 h.2 (by omega) (fun y hy => by have := (h.2.1 y hy).1.1; omega) p2]
    dsimp only
    rw [List.length_append, List.length_append, Nat.add_assoc, Nat.add_assoc, Nat.add_assoc]
theorem rdSs_enc {t : List Int} {q : Int} (hq : q ≤ 1001) : ∀ (ss : List sta) (a : Nat), (∀ x ∈ ss, stOK q x) → pfx t a (ss.flatMap enS) → rdSs t q ss.length a = .inr (a + (ss.flatMap enS).length, ss)
  | [], a, _, _ => rfl
  | x :: ss, a, ho, hp => by
    rw [List.flatMap_cons] at hp ⊢
    obtain ⟨p1, p2⟩ := pfx_app hp
    rw [List.length_cons, rdSs, rdS_enc hq (ho x List.mem_cons_self) p1]
    dsimp only
    rw [rdSs_enc hq ss _ (fun y hy => ho y (List.mem_cons_of_mem _ hy)) p2]
    dsimp only
    rw [List.length_append, Nat.add_assoc]
theorem rdB_enc {u : Int} {ss : List sta} (hm : mach ss) (hl : 1 ≤ ss.length ∧ ss.length ≤ 1001) (hu : 0 ≤ u ∧ u ≤ 999999) : rdB (enM u ss) = .inr (u, ss) := by
  obtain ⟨t, ht⟩ : ∃ t, t = enM u ss := ⟨_, rfl⟩
  rw [← ht]
  have hlen : t.length = (enM u ss).length := by rw [ht]
  have hp2 : pfx t 0 (enc (ss.length : Int) ++ (enc u ++ ss.flatMap enS)) := by
    rw [ht]
    unfold pfx
    rw [List.drop_zero]
    exact List.prefix_refl _
  obtain ⟨p1, p2⟩ := pfx_app hp2
  obtain ⟨p3, p4⟩ := pfx_app p2
  unfold rdB
  rw [rdN_enc (by omega) (by omega) (by omega) (by omega) p1]
  dsimp only
  rw [rdN_enc (by omega) (by omega) (by omega) (by omega) p3]
  dsimp only
  rw [Int.toNat_natCast, rdSs_enc (by omega) ss _ hm p4]
  dsimp only
  unfold enM at hlen
  rw [List.length_append, List.length_append] at hlen
  rw [if_pos (by omega)]
/-- the machine of words, as it is packed -/
def stA (ws : List wd) (j c : Nat) : arc := (ll ws c, (lst ws (pn ws c) - lst ws (pn ws j), (stt ws c : Int)))
def stM (ws : List wd) (j : Nat) : sta := (en ws (pn ws j), (kd ws j).map (stA ws j))
def mM (ws : List wd) : List sta := (fst ws).map (stM ws)
theorem fm_map {α β γ : Type} {f : α → β} {g : β → List γ} {h : α → List γ} (e : ∀ x, h x = g (f x)) : ∀ l : List α, l.flatMap h = (l.map f).flatMap g
  | [] => rfl
  | x :: l => by rw [List.flatMap_cons, List.map_cons, List.flatMap_cons, e, fm_map e l]
theorem pkE_enM (ws : List wd) : pkE ws = enM (lst ws []) (mM ws) := by
  unfold pkE enM mM
  rw [List.length_map, fm_map (f := stM ws) (g := enS)]
  intro j
  unfold stN stH enS stM
  dsimp only
  rw [List.length_map, fm_map (f := stA ws j) (g := enA)]
  intro c
  rfl
theorem mM_len (ws : List wd) : (mM ws).length = nS ws := List.length_map _
theorem nS_pos (ws : List wd) : 1 ≤ nS ws := by
  have := stt_lt (ws := ws) (k := 0) nN_pos
  omega
theorem mach_mM {ws : List wd} (hok : ok ws) : mach (mM ws) := by
  intro x hx
  rw [mM_len]
  obtain ⟨j, hj, rfl⟩ := List.mem_map.mp hx
  have hj1 := (rl_lt hj).1
  refine ⟨?_, fun a ha => ?_, ?_⟩
  · by_cases c : en ws (pn ws j) = -2
    · exact Or.inl c
    · exact Or.inr (en_bd hok c)
  · obtain ⟨c, hc, rfl⟩ := List.mem_map.mp ha
    have h1 := lst_kd hok hj1 hc
    have h2 := lst_bd hok.1 (pn ws c)
    have h3 := lst_bd hok.1 (pn ws j)
    have h4 := stt_lt (ws := ws) (kd_lt hc)
    refine ⟨ll_bd hok hj1 hc, ?_, ?_⟩
    · show 0 ≤ lst ws (pn ws c) - lst ws (pn ws j) ∧ _
      show 0 ≤ lst ws (pn ws c) - lst ws (pn ws j) ∧ lst ws (pn ws c) - lst ws (pn ws j) ≤ 999999
      omega
    · show 0 ≤ (stt ws c : Int) ∧ (stt ws c : Int) < (nS ws : Int)
      omega
  · show List.Pairwise _ ((kd ws j).map (stA ws j))
    rw [List.pairwise_map]
    have := lts_srt hok.2.1 hj1
    unfold lts at this
    rw [List.pairwise_map] at this
    exact this
theorem rdB_pk {ws : List wd} (hok : ok ws) : rdB (pkE ws) = .inr (lst ws [], mM ws) := by
  rw [pkE_enM]
  exact rdB_enc (mach_mM hok) (by rw [mM_len]; exact ⟨nS_pos ws, nS_le hok⟩) (lst_bd hok.1 [])
