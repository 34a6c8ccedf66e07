/-! the class' machine: which nodes are alike -/
section MA
variable {q b : Nat} {g : am_H} {S : Nat → Nat → Int} {ws : List wd}
/-- alike, where only nodes of P may be like others -/
def eO (ws : List wd) (P : Nat → Bool) (i j : Nat) : Bool := decide (i = j) || (P i && (P j && eR ws i j))
theorem eO_iff {P : Nat → Bool} {i j : Nat} : eO ws P i j = true ↔ i = j ∨ (P i = true ∧ P j = true ∧ R ws (pn ws i) = R ws (pn ws j)) := by
  unfold eO eR
  simp only [Bool.or_eq_true, Bool.and_eq_true, decide_eq_true_eq]
theorem eO_eqv (ws : List wd) (P : Nat → Bool) : eqv (eO ws P) := by
  refine ⟨fun i => eO_iff.mpr (Or.inl rfl), fun i j h => ?_, fun i j k h1 h2 => ?_⟩
  · rcases eO_iff.mp h with h | ⟨h1, h2, h3⟩
    · exact eO_iff.mpr (Or.inl h.symm)
    · exact eO_iff.mpr (Or.inr ⟨h2, h1, h3.symm⟩)
  · rcases eO_iff.mp h1 with h | ⟨a1, a2, a3⟩
    · rw [h]; exact h2
    · rcases eO_iff.mp h2 with h | ⟨b1, b2, b3⟩
      · rw [← h]; exact h1
      · exact eO_iff.mpr (Or.inr ⟨a1, b2, a3.trans b3⟩)
theorem eO_R {P : Nat → Bool} {i j : Nat} (h : eO ws P i j = true) : R ws (pn ws i) = R ws (pn ws j) := by
  rcases eO_iff.mp h with h | ⟨_, _, h⟩
  · rw [h]
  · exact h
def okP (ws : List wd) (P : Nat → Bool) : Prop := (∀ k c, k < nN ws → c ∈ kd ws k → P k = true → P c = true) ∧ ∀ k, k + 1 < nN ws → P k = false → ∃ c ∈ kd ws k, P c = false
theorem okP_tt (ws : List wd) : okP ws tt := ⟨fun _ _ _ _ _ => rfl, fun k _ h => by simp [tt] at h⟩
theorem last_pn (hok : ok ws) (hn : ws ≠ []) : pn ws (nN ws - 1) = (ws.getLastD ([], 0)).1 := by
  have hs := hok.2.1
  have hl := List.length_pos_iff.mpr hn
  have hg : ws[ws.length - 1]? = some (ws[ws.length - 1]'(by omega)) := List.getElem?_eq_getElem (by omega)
  have he : (ws.getLastD ([], 0)) = ws[ws.length - 1]'(by omega) := by
    rw [List.getLastD_eq_getLast?, List.getLast?_eq_getElem?, hg]
    rfl
  generalize hp : ws[ws.length - 1]'(by omega) = p at *
  have hns := nl_s hg
  rw [show ws.length - 1 + 1 = ws.length by omega, nl_all] at hns
  have h1 := wb_lx hs hok.1 hg
  have hcp := cpl_le (wb ws (ws.length - 1)) p.1
  have hlt : cpl (wb ws (ws.length - 1)) p.1 < p.1.length := by
    rcases Nat.lt_or_ge (cpl (wb ws (ws.length - 1)) p.1) p.1.length with h | h
    · exact h
    · have e : (wb ws (ws.length - 1)).take p.1.length = p.1 := by
        have := cpl_take (a := wb ws (ws.length - 1)) (c := p.1) (k := p.1.length) (by omega)
        rw [List.take_length] at this
        exact this
      have h2 := pf_lx p.1 (wb ws (ws.length - 1)) ⟨(wb ws (ws.length - 1)).drop p.1.length, by conv => rhs; rw [← List.take_append_drop p.1.length (wb ws (ws.length - 1))]; rw [e]⟩
      rw [h2] at h1
      exact Bool.noConfusion h1
  rw [he, show nN ws - 1 = nl ws (ws.length - 1) + (p.1.length - cpl (wb ws (ws.length - 1)) p.1 - 1) by omega, ND_at hg (by omega), show cpl (wb ws (ws.length - 1)) p.1 + 1 + (p.1.length - cpl (wb ws (ws.length - 1)) p.1 - 1) = p.1.length by omega, List.take_length]
theorem okP_clo (hok : ok ws) (hn : ws ≠ []) : okP ws (clo ws) := by
  have hs := hok.2.1
  have hl := last_pn hok hn
  constructor
  · intro k c hk hc hP
    cases e : clo ws c with
    | true => rfl
    | false =>
      have h1 := (clo_iff hs hn (kd_lt hc)).mp e
      obtain ⟨e1, _, _⟩ := kd_ll hs hk hc
      rw [e1] at h1
      have h2 := (clo_iff hs hn hk).mpr ((List.prefix_append _ _).trans h1)
      rw [h2] at hP
      exact hP
  · intro k hk hP
    have h1 := (clo_iff hs hn (show k < nN ws by omega)).mp hP
    obtain ⟨t, ht⟩ := h1
    cases t with
    | nil =>
      rw [List.append_nil] at ht
      have := pn_inj hs (show k < nN ws by omega) (show nN ws - 1 < nN ws by omega) (ht.trans hl.symm)
      omega
    | cons y t =>
      have hlast : pn ws (nN ws - 1) ∈ [pn ws (nN ws - 1)] := List.mem_singleton.mpr rfl
      have hb : bg ws (pn ws k ++ [y]) := bg_pf (pn_bg (show nN ws - 1 < nN ws by omega)) ⟨t, by rw [hl, ← ht]; simp⟩
      refine ⟨ix ws (pn ws k ++ [y]), (kd_mem hs (show k < nN ws by omega)).mpr ⟨y, hb, rfl⟩, ?_⟩
      rw [clo_iff hs hn (ix_lt hs hb), pn_ix hs hb]
      exact ⟨t, by rw [← ht]; simp⟩
/-- what is compared of two nodes -/
def cnd (ws : List wd) (tw : Nat → Int) (a b : Nat) : Prop := sz ws (pn ws a) = sz ws (pn ws b) ∧ en ws (pn ws a) = en ws (pn ws b) ∧ sg ws tw a = sg ws tw b
theorem cnd_iff (hok : ok ws) {P : Nat → Bool} (hP : okP ws P) {tw : Nat → Int} {a b : Nat} (hab : a < b) (hb : b < nN ws) (hA : ∀ x y, a < x → x < nN ws → a < y → y < nN ws → (tw x = tw y ↔ eO ws P x y = true)) (hbl : b + 1 < nN ws ∨ P b = true) : cnd ws tw a b ↔ eO ws P a b = true := by
  have hs := hok.2.1
  have ha : a < nN ws := by omega
  have ka : ∀ x ∈ kd ws a, a < x ∧ x < nN ws := fun x hx => ⟨(kd_in hs ha hx).1, kd_lt hx⟩
  have kb : ∀ x ∈ kd ws b, a < x ∧ x < nN ws := fun x hx => ⟨by have := (kd_in hs hb hx).1; omega, kd_lt hx⟩
  have find : ∀ {c d x : Nat}, sg ws tw c = sg ws tw d → x ∈ kd ws c → ∃ y ∈ kd ws d, tw y = tw x := by
    intro c d x h hx
    have hm : (ll ws x, lst ws (pn ws x) - lst ws (pn ws c), tw x) ∈ sg ws tw c := List.mem_map.mpr ⟨x, hx, rfl⟩
    rw [h] at hm
    obtain ⟨y, hy, e⟩ := List.mem_map.mp hm
    injection e with _ e
    injection e with _ e
    exact ⟨y, hy, e⟩
  constructor
  · rintro ⟨h1, h2, h3⟩
    have hR := sg_R1 hok.1 hs ha hb (fun x hx y hy h => eO_R ((hA x y (ka x hx).1 (ka x hx).2 (kb y hy).1 (kb y hy).2).mp h)) h2 h3
    refine eO_iff.mpr (Or.inr ⟨?_, ?_, hR⟩)
    · cases e : P a with
      | true => rfl
      | false =>
        obtain ⟨c, hc, hPc⟩ := hP.2 a (by omega) e
        obtain ⟨y, hy, hyc⟩ := find h3 hc
        rcases eO_iff.mp ((hA y c (kb y hy).1 (kb y hy).2 (ka c hc).1 (ka c hc).2).mp hyc) with g | ⟨_, g, _⟩
        · subst g
          have g1 := (kd_pr hc).1
          have g2 := (kd_pr hy).1
          omega
        · rw [hPc] at g; exact Bool.noConfusion g
    · rcases hbl with hbl | hbl
      · cases e : P b with
        | true => rfl
        | false =>
          obtain ⟨c, hc, hPc⟩ := hP.2 b hbl e
          obtain ⟨y, hy, hyc⟩ := find h3.symm hc
          rcases eO_iff.mp ((hA y c (ka y hy).1 (ka y hy).2 (kb c hc).1 (kb c hc).2).mp hyc) with g | ⟨_, g, _⟩
          · subst g
            have g1 := (kd_pr hc).1
            have g2 := (kd_pr hy).1
            omega
          · rw [hPc] at g; exact Bool.noConfusion g
      · exact hbl
  · intro h
    rcases eO_iff.mp h with g | ⟨p1, p2, p3⟩
    · omega
    · obtain ⟨e1, e2⟩ := sg_R2 (tw := tw) hok.1 hs ha hb p3 (fun x hx y hy hR => (hA x y (ka x hx).1 (ka x hx).2 (kb y hy).1 (kb y hy).2).mpr (eO_iff.mpr (Or.inr ⟨hP.1 a x ha hx p1, hP.1 b y hb hy p2, hR⟩)))
      exact ⟨R_sz hs (pn_bg ha) (pn_bg hb) p3, e1, e2⟩
theorem sg_congr {tw tw' : Nat → Int} {k : Nat} (h : ∀ x ∈ kd ws k, tw x = tw' x) : sg ws tw k = sg ws tw' k := by
  unfold sg
  refine List.map_congr_left (fun x hx => ?_)
  rw [h x hx]
/-- all that a machine's nodes hold -/
def maN (S : Nat → Nat → Int) (ws : List wd) : Prop := S 14 0 = (nN ws : Int) ∧ trP S ws (nN ws) ∧ nvP S ws (nN ws) ∧ msP S ws
theorem maN.fr {S S' : Nat → Nat → Int} (H : maN S ws) {l : List Nat} (F : fd l S S') (hl : l.all (fun k => decide (5 < k ∧ k ≠ 14)) = true) : maN S' ws := by
  have key : ∀ k, k ≤ 5 ∨ k = 14 → S' k = S k := fun k hk => F k (fun hm => by
    have := List.all_eq_true.mp hl k hm
    simp only [decide_eq_true_eq] at this
    omega)
  unfold maN trP nvP msP at *
  rw [key 14 (by decide), key 0 (by decide), key 1 (by decide), key 2 (by decide), key 3 (by decide), key 4 (by decide), key 5 (by decide)]
  exact H
theorem ma_endsWith (hok : ok ws) (H : maN S ws) {k : Nat} (hk : k < nN ws) (d : Nat) : am_cI d N_ma_endsWith [.inr (.inr (some (q))), .inl ((k : Int))] (maH q g S) = some (en ws (pn ws k), maH q g S) := by
  have hN' : nN ws ≤ 1001 := ND_len hok
  have h3 := H.2.2.1 k hk
  have h4 := (H.2.2.2 k hk).1
  have hb := lst_bd hok.1 (pn ws k)
  rw [nv_nu hok.1 hok.2.1 hk] at h3
  unfold en
  apply am_cI_of
  cases e : nu ws (pn ws k) with
  | none =>
    rw [e] at h3
    have h3' : S 3 k = -1 := h3
    (try dsimp only); rw [en_ma_endsWith]; (try simp (disch := omega) only [Option.bind_some, if_true, if_false, eq_self, not_true_eq_false, not_false_eq_true, am_w_id, if_pos, if_neg, fu_self, fu_ne, Int.toNat_natCast, h3']); rw [B_ma_endsWith_0]; (try simp (disch := omega) only [Option.bind_some, if_true, if_false, eq_self, not_true_eq_false, not_false_eq_true, am_w_id, if_pos, if_neg, fu_self, fu_ne, Int.toNat_natCast, ma_gR_3, ma_l_3, ma_s_3, h3']); rw [B_ma_endsWith_10]; (try simp (disch := omega) only [Option.bind_some, if_true, if_false, eq_self, not_true_eq_false, not_false_eq_true, am_w_id, if_pos, if_neg, fu_self, fu_ne, Int.toNat_natCast, h3']); rw [B_ma_endsWith_28]; (try simp (disch := omega) only [Option.bind_some, if_true, if_false, eq_self, not_true_eq_false, not_false_eq_true, am_w_id, if_pos, if_neg, fu_self, fu_ne, Int.toNat_natCast, h3'])
  | some n =>
    rw [e] at h3
    have h3' : S 3 k = n := h3
    have hn := (hok.1 _ ((nu_mem hok.2.1).mp e)).2.2.2
    dsimp only at hn
    have c : ¬ n = -1 := by omega
    (try dsimp only); rw [en_ma_endsWith]; (try simp (disch := omega) only [Option.bind_some, if_true, if_false, eq_self, not_true_eq_false, not_false_eq_true, am_w_id, if_pos, if_neg, fu_self, fu_ne, Int.toNat_natCast, h3', h4, c]); rw [B_ma_endsWith_0]; (try simp (disch := omega) only [Option.bind_some, if_true, if_false, eq_self, not_true_eq_false, not_false_eq_true, am_w_id, if_pos, if_neg, fu_self, fu_ne, Int.toNat_natCast, ma_gR_3, ma_l_3, ma_s_3, h3', h4, c]); rw [B_ma_endsWith_15]; (try simp (disch := omega) only [Option.bind_some, if_true, if_false, eq_self, not_true_eq_false, not_false_eq_true, am_w_id, if_pos, if_neg, fu_self, fu_ne, Int.toNat_natCast, ma_gR_3, ma_l_3, ma_s_3, ma_gR_4, ma_l_4, ma_s_4, h3', h4, c]); rw [B_ma_endsWith_28]; (try simp (disch := omega) only [Option.bind_some, if_true, if_false, eq_self, not_true_eq_false, not_false_eq_true, am_w_id, if_pos, if_neg, fu_self, fu_ne, Int.toNat_natCast, h3', h4, c])
def out (ws : List wd) (k : Nat) : Int := if k = 0 then 0 else lst ws (pn ws k) - lst ws (pn ws (pr ws k))
theorem ma_outputTo (hok : ok ws) (H : maN S ws) {k : Nat} (hk : k < nN ws) (d : Nat) : am_cI d N_ma_outputTo [.inr (.inr (some (q))), .inl ((k : Int))] (maH q g S) = some (out ws k, maH q g S) := by
  have hN' : nN ws ≤ 1001 := ND_len hok
  have h2 := (H.2.1 k hk).2.2
  have h4 := (H.2.2.2 k hk).1
  have hb := lst_bd hok.1 (pn ws k)
  unfold par at h2
  unfold out
  apply am_cI_of
  by_cases c : k = 0
  · rw [if_pos c] at h2 ⊢
    (try dsimp only); rw [en_ma_outputTo]; (try simp (disch := omega) only [Option.bind_some, if_true, if_false, eq_self, not_true_eq_false, not_false_eq_true, am_w_id, if_pos, if_neg, fu_self, fu_ne, Int.toNat_natCast, h2]); rw [B_ma_outputTo_0]; (try simp (disch := omega) only [Option.bind_some, if_true, if_false, eq_self, not_true_eq_false, not_false_eq_true, am_w_id, if_pos, if_neg, fu_self, fu_ne, Int.toNat_natCast, ma_gR_2, ma_l_2, ma_s_2, h2]); rw [B_ma_outputTo_10]; (try simp (disch := omega) only [Option.bind_some, if_true, if_false, eq_self, not_true_eq_false, not_false_eq_true, am_w_id, if_pos, if_neg, fu_self, fu_ne, Int.toNat_natCast, h2]); rw [B_ma_outputTo_32]; (try simp (disch := omega) only [Option.bind_some, if_true, if_false, eq_self, not_true_eq_false, not_false_eq_true, am_w_id, if_pos, if_neg, fu_self, fu_ne, Int.toNat_natCast, h2])
  · rw [if_neg c] at h2 ⊢
    have hp := (pr_in hok.2.1 hk c).1
    have h5 := (H.2.2.2 (pr ws k) (by omega)).1
    have hb2 := lst_bd hok.1 (pn ws (pr ws k))
    have c2 : ¬ (pr ws k : Int) = -1 := by omega
    (try dsimp only); rw [en_ma_outputTo]; (try simp (disch := omega) only [Option.bind_some, if_true, if_false, eq_self, not_true_eq_false, not_false_eq_true, am_w_id, if_pos, if_neg, fu_self, fu_ne, Int.toNat_natCast, h2, h4, h5, c2]); rw [B_ma_outputTo_0]; (try simp (disch := omega) only [Option.bind_some, if_true, if_false, eq_self, not_true_eq_false, not_false_eq_true, am_w_id, if_pos, if_neg, fu_self, fu_ne, Int.toNat_natCast, ma_gR_2, ma_l_2, ma_s_2, h2, h4, h5, c2]); rw [B_ma_outputTo_14]; (try simp (disch := omega) only [Option.bind_some, if_true, if_false, eq_self, not_true_eq_false, not_false_eq_true, am_w_id, if_pos, if_neg, fu_self, fu_ne, Int.toNat_natCast, ma_gR_4, ma_l_4, ma_s_4, ma_gR_2, ma_l_2, ma_s_2, h2, h4, h5, c2]); rw [B_ma_outputTo_32]; (try simp (disch := omega) only [Option.bind_some, if_true, if_false, eq_self, not_true_eq_false, not_false_eq_true, am_w_id, if_pos, if_neg, fu_self, fu_ne, Int.toNat_natCast, h2, h4, h5, c2])
theorem out_kd {k c : Nat} (hc : c ∈ kd ws k) : out ws c = lst ws (pn ws c) - lst ws (pn ws k) := by
  obtain ⟨h1, h2⟩ := kd_pr hc
  unfold out
  rw [if_neg h2, h1]
theorem mx1 {v : Int} (h : 1 ≤ v) : am_max 1 v = v := by unfold am_max; split <;> omega
theorem sg_get {tw : Nat → Int} {k i : Nat} (h : i < (kd ws k).length) : (sg ws tw k)[i]? = some (ll ws (nx ws k i), lst ws (pn ws (nx ws k i)) - lst ws (pn ws k), tw (nx ws k i)) := by
  unfold sg
  rw [List.getElem?_map, (nx_in h).2]
  rfl
theorem ma_areAlike (hok : ok ws) (H : maN S ws) {a b : Nat} (ha : a < nN ws) (hb : b < nN ws) (htw : ∀ x ∈ kd ws a, ∀ y ∈ kd ws b, S 6 x = S 6 y → sz ws (pn ws x) = sz ws (pn ws y)) (d : Nat) :
    ∃ x, am_cI (d + 1) N_ma_areAlike [.inr (.inr (some (q))), .inl ((a : Int)), .inl ((b : Int))] (maH q g S) = some (x, maH q g S) ∧ ((x = 1 ∧ cnd ws (S 6) a b) ∨ (x = 0 ∧ ¬ cnd ws (S 6) a b)) := by
  have hs := hok.2.1
  have hN' : nN ws ≤ 1001 := ND_len hok
  have a5 := (H.2.2.2 a ha).2
  have b5 := (H.2.2.2 b hb).2
  have sa := szk_le hs ha
  have sb' := szk_le hs hb
  have ea := fun d => ma_endsWith (q := q) (g := g) hok H ha d
  have eb := fun d => ma_endsWith (q := q) (g := g) hok H hb d
  unfold cnd
  have key : ∃ x, am_call (d + 1) N_ma_areAlike [.inr (.inr (some (q))), .inl ((a : Int)), .inl ((b : Int))] (maH q g S) = some (some (.inl x), maH q g S) ∧ ((x = 1 ∧ (sz ws (pn ws a) = sz ws (pn ws b) ∧ en ws (pn ws a) = en ws (pn ws b) ∧ sg ws (S 6) a = sg ws (S 6) b)) ∨ (x = 0 ∧ ¬ (sz ws (pn ws a) = sz ws (pn ws b) ∧ en ws (pn ws a) = en ws (pn ws b) ∧ sg ws (S 6) a = sg ws (S 6) b))) := by
    by_cases c1 : sz ws (pn ws a) = sz ws (pn ws b)
    · have c1' : (sz ws (pn ws a) : Int) = (sz ws (pn ws b) : Int) := by omega
      by_cases c2 : en ws (pn ws a) = en ws (pn ws b)
      · have hx0 := nx_0 hs ha
        have hy0 := nx_0 hs hb
        have st : am_call (d + 1) N_ma_areAlike [.inr (.inr (some (q))), .inl ((a : Int)), .inl ((b : Int))] (maH q g S) = EV (d + 1) N_ma_areAlike T_ma_areAlike_44 [.inr (.inr (some (q))), .inl ((a : Int)), .inl ((b : Int)), .inl (((a + sz ws (pn ws a) : Nat) : Int)), .inl ((nx ws a 0 : Int)), am_nul] [] (maH q g S) := by
          have e1 : (a : Int) + (sz ws (pn ws b) : Int) = ((a + sz ws (pn ws a) : Nat) : Int) := by omega
          have e2 : (a : Int) + 1 = (nx ws a 0 : Int) := by omega
          (try dsimp only); rw [en_ma_areAlike]; (try simp (disch := omega) only [Option.bind_some, if_true, if_false, eq_self, not_true_eq_false, not_false_eq_true, am_w_id, if_pos, if_neg, fu_self, fu_ne, Int.toNat_natCast, a5, b5, c1', ea, eb, c2, e1, e2]); rw [B_ma_areAlike_0]; (try simp (disch := omega) only [Option.bind_some, if_true, if_false, eq_self, not_true_eq_false, not_false_eq_true, am_w_id, if_pos, if_neg, fu_self, fu_ne, Int.toNat_natCast, ma_gR_5, ma_l_5, ma_s_5, a5, b5, c1', ea, eb, c2, e1, e2]); rw [B_ma_areAlike_15]; (try simp (disch := omega) only [Option.bind_some, if_true, if_false, eq_self, not_true_eq_false, not_false_eq_true, am_w_id, if_pos, if_neg, fu_self, fu_ne, Int.toNat_natCast, ma_O, a5, b5, c1', ea, eb, c2, e1, e2]); rw [B_ma_areAlike_30]; (try simp (disch := omega) only [Option.bind_some, if_true, if_false, eq_self, not_true_eq_false, not_false_eq_true, am_w_id, if_pos, if_neg, fu_self, fu_ne, Int.toNat_natCast, ma_gR_5, ma_l_5, ma_s_5, a5, b5, c1', ea, eb, c2, e1, e2])
        rw [st]
        refine am_loop (S := Nat × am_V) (F := fun z => EV (d + 1) N_ma_areAlike T_ma_areAlike_44 [.inr (.inr (some (q))), .inl ((a : Int)), .inl ((b : Int)), .inl (((a + sz ws (pn ws a) : Nat) : Int)), .inl ((nx ws a z.1 : Int)), z.2] [] (maH q g S))
          (I := fun z => z.1 ≤ (kd ws a).length ∧ z.1 ≤ (kd ws b).length ∧ (∀ j, j < z.1 → (sg ws (S 6) a)[j]? = (sg ws (S 6) b)[j]?) ∧ nx ws a z.1 + b = nx ws b z.1 + a)
          (R := fun o => ∃ x, o = some (some (.inl x), maH q g S) ∧ ((x = 1 ∧ (sz ws (pn ws a) = sz ws (pn ws b) ∧ en ws (pn ws a) = en ws (pn ws b) ∧ sg ws (S 6) a = sg ws (S 6) b)) ∨ (x = 0 ∧ ¬ (sz ws (pn ws a) = sz ws (pn ws b) ∧ en ws (pn ws a) = en ws (pn ws b) ∧ sg ws (S 6) a = sg ws (S 6) b)))) (fun z => (kd ws a).length - z.1) ?_ (0, am_nul) ⟨Nat.zero_le _, Nat.zero_le _, fun j hj => by dsimp only at hj; omega, by dsimp only; omega⟩
        rintro ⟨i, j5⟩ ⟨i1, i2, i3, i4⟩
        dsimp only at i1 i2 i3 i4 ⊢
        have hia := nx_iff (i := i) hs ha
        have hib := nx_iff (i := i) hs hb
        have bda := nx_bd (i := i) hs ha
        have bdb := nx_bd (i := i) hs hb
        by_cases c3 : i < (kd ws a).length
        · have c3' := hia.mp c3
          have c4 : i < (kd ws b).length := hib.mpr (by omega)
          have hx := (nx_in c3).1
          have hy := (nx_in c4).1
          have hxN := kd_lt hx
          have hyN := kd_lt hy
          have x0 := (H.2.1 _ hxN).1
          have y0 := (H.2.1 _ hyN).1
          have x5 := (H.2.2.2 _ hxN).2
          have ox := fun d => ma_outputTo (q := q) (g := g) hok H hxN d
          have oy := fun d => ma_outputTo (q := q) (g := g) hok H hyN d
          rw [out_kd hx] at ox
          rw [out_kd hy] at oy
          have hga := sg_get (ws := ws) (tw := S 6) c3
          have hgb := sg_get (ws := ws) (tw := S 6) c4
          have hnxa := nx_s hs ha c3
          have hnxb := nx_s hs hb c4
          have hszx := sz_pos hs (pn_bg hxN)
          have hszl := szk_le hs hxN
          generalize hX : nx ws a i = X at *
          generalize hY : nx ws b i = Y at *
          have ey : am_w (am_w ((X : Int) - (a : Int)) + (b : Int)) = (Y : Int) := by
            rw [am_w_id (x := (X : Int) - (a : Int)) (by omega) (by omega), am_w_id (by omega) (by omega)]
            omega
          have cle : ¬ ((a + sz ws (pn ws a) : Nat) : Int) ≤ (X : Int) := by omega
          have no : (sg ws (S 6) a)[i]? ≠ (sg ws (S 6) b)[i]? → ∀ x5 : am_V, EV (d + 1) N_ma_areAlike T_ma_areAlike_44 [.inr (.inr (some (q))), .inl ((a : Int)), .inl ((b : Int)), .inl (((a + sz ws (pn ws a) : Nat) : Int)), .inl ((X : Int)), j5] [] (maH q g S) = EV (d + 1) N_ma_areAlike T_ma_areAlike_107 [.inr (.inr (some (q))), .inl ((a : Int)), .inl ((b : Int)), .inl (((a + sz ws (pn ws a) : Nat) : Int)), .inl ((X : Int)), .inl ((Y : Int))] [] (maH q g S) → ∃ x, EV (d + 1) N_ma_areAlike T_ma_areAlike_44 [.inr (.inr (some (q))), .inl ((a : Int)), .inl ((b : Int)), .inl (((a + sz ws (pn ws a) : Nat) : Int)), .inl ((X : Int)), j5] [] (maH q g S) = some (some (.inl x), maH q g S) ∧ ((x = 1 ∧ (sz ws (pn ws a) = sz ws (pn ws b) ∧ en ws (pn ws a) = en ws (pn ws b) ∧ sg ws (S 6) a = sg ws (S 6) b)) ∨ (x = 0 ∧ ¬ (sz ws (pn ws a) = sz ws (pn ws b) ∧ en ws (pn ws a) = en ws (pn ws b) ∧ sg ws (S 6) a = sg ws (S 6) b))) := by
            intro hne _ e
            refine ⟨0, e.trans ?_, Or.inr ⟨rfl, fun h => hne (by rw [h.2.2])⟩⟩
            (try dsimp only); rw [B_ma_areAlike_107]; (try simp (disch := omega) only [Option.bind_some, if_true, if_false, eq_self, not_true_eq_false, not_false_eq_true, am_w_id, if_pos, if_neg, fu_self, fu_ne, Int.toNat_natCast])
          by_cases c5 : ll ws X = ll ws Y
          · by_cases c6 : lst ws (pn ws X) - lst ws (pn ws a) = lst ws (pn ws Y) - lst ws (pn ws b)
            · by_cases c7 : S 6 X = S 6 Y
              · right
                have hszy := htw X hx Y hy c7
                refine ⟨(i + 1, .inl ((Y : Int))), ⟨by dsimp only; omega, by dsimp only; omega, fun j hj => ?_, by dsimp only; omega⟩, by dsimp only; omega, ?_⟩
                · dsimp only at hj
                  by_cases e : j = i
                  · rw [e, hga, hgb, c5, c6, c7]
                  · exact i3 j (by omega)
                · have e8 : (X : Int) + (sz ws (pn ws X) : Int) = (nx ws a (i + 1) : Int) := by omega
                  have hmx : am_max 1 (sz ws (pn ws X) : Int) = (sz ws (pn ws X) : Int) := mx1 (by omega)
                  rw [B_ma_areAlike_44, if_neg cle, B_ma_areAlike_50, ma_gR_0, Option.bind_some, ma_l_0 (by omega) (by omega), Option.bind_some, Option.bind_some, ey, ma_l_0 (by omega) (by omega), Option.bind_some, Int.toNat_natCast, Int.toNat_natCast, x0, y0, if_neg (fun h => h c5)]
                  rw [B_ma_areAlike_75, if_pos ma_O, ox, Option.bind_some]
                  dsimp only
                  rw [if_pos ma_O, oy, Option.bind_some]
                  dsimp only
                  rw [if_neg (fun h => h c6)]
                  rw [B_ma_areAlike_90, ma_gR_6, Option.bind_some, ma_l_6 (by omega) (by omega), Option.bind_some, Option.bind_some, ma_l_6 (by omega) (by omega), Option.bind_some, Int.toNat_natCast, Int.toNat_natCast, if_pos c7]
                  rw [B_ma_areAlike_109, ma_gR_5, Option.bind_some, ma_l_5 (by omega) (by omega), Option.bind_some, Int.toNat_natCast, x5, hmx, e8, am_w_id (by omega) (by omega)]
              · left
                refine no (fun h => c7 ?_) am_nul ?_
                · rw [hga, hgb] at h
                  injection h with h; injection h with _ h; injection h with _ h
                · rw [B_ma_areAlike_44, if_neg cle, B_ma_areAlike_50, ma_gR_0, Option.bind_some, ma_l_0 (by omega) (by omega), Option.bind_some, Option.bind_some, ey, ma_l_0 (by omega) (by omega), Option.bind_some, Int.toNat_natCast, Int.toNat_natCast, x0, y0, if_neg (fun h => h c5)]
                  rw [B_ma_areAlike_75, if_pos ma_O, ox, Option.bind_some]
                  dsimp only
                  rw [if_pos ma_O, oy, Option.bind_some]
                  dsimp only
                  rw [if_neg (fun h => h c6)]
                  rw [B_ma_areAlike_90, ma_gR_6, Option.bind_some, ma_l_6 (by omega) (by omega), Option.bind_some, Option.bind_some, ma_l_6 (by omega) (by omega), Option.bind_some, Int.toNat_natCast, Int.toNat_natCast, if_neg c7]
            · left
              refine no (fun h => c6 ?_) am_nul ?_
              · rw [hga, hgb] at h
                injection h with h; injection h with _ h; injection h with h _
              · rw [B_ma_areAlike_44, if_neg cle, B_ma_areAlike_50, ma_gR_0, Option.bind_some, ma_l_0 (by omega) (by omega), Option.bind_some, Option.bind_some, ey, ma_l_0 (by omega) (by omega), Option.bind_some, Int.toNat_natCast, Int.toNat_natCast, x0, y0, if_neg (fun h => h c5)]
                rw [B_ma_areAlike_75, if_pos ma_O, ox, Option.bind_some]
                dsimp only
                rw [if_pos ma_O, oy, Option.bind_some]
                dsimp only
                rw [if_pos c6]
          · left
            refine no (fun h => c5 ?_) am_nul ?_
            · rw [hga, hgb] at h
              injection h with h; injection h with h _
            · rw [B_ma_areAlike_44, if_neg cle, B_ma_areAlike_50, ma_gR_0, Option.bind_some, ma_l_0 (by omega) (by omega), Option.bind_some, Option.bind_some, ey, ma_l_0 (by omega) (by omega), Option.bind_some, Int.toNat_natCast, Int.toNat_natCast, x0, y0, if_pos c5]
        · left
          have e3 := nx_end (ws := ws) (k := a) (i := i) (by omega)
          have c4 : ¬ i < (kd ws b).length := fun h => by have := hib.mp h; omega
          refine ⟨1, ?_, Or.inl ⟨rfl, c1, c2, List.ext_getElem? (fun j => ?_)⟩⟩
          · rw [e3]
            (try dsimp only); rw [B_ma_areAlike_44]; (try simp (disch := omega) only [Option.bind_some, if_true, if_false, eq_self, not_true_eq_false, not_false_eq_true, am_w_id, if_pos, if_neg, fu_self, fu_ne, Int.toNat_natCast]); rw [B_ma_areAlike_128]; (try simp (disch := omega) only [Option.bind_some, if_true, if_false, eq_self, not_true_eq_false, not_false_eq_true, am_w_id, if_pos, if_neg, fu_self, fu_ne, Int.toNat_natCast])
          · by_cases cj : j < i
            · exact i3 j cj
            · have la : (sg ws (S 6) a).length = (kd ws a).length := List.length_map _
              have lb : (sg ws (S 6) b).length = (kd ws b).length := List.length_map _
              rw [List.getElem?_eq_none (by omega), List.getElem?_eq_none (by omega)]
      · refine ⟨0, ?_, Or.inr ⟨rfl, fun h => c2 h.2.1⟩⟩
        (try dsimp only); rw [en_ma_areAlike]; (try simp (disch := omega) only [Option.bind_some, if_true, if_false, eq_self, not_true_eq_false, not_false_eq_true, am_w_id, if_pos, if_neg, fu_self, fu_ne, Int.toNat_natCast, a5, b5, c1', ea, eb, c2]); rw [B_ma_areAlike_0]; (try simp (disch := omega) only [Option.bind_some, if_true, if_false, eq_self, not_true_eq_false, not_false_eq_true, am_w_id, if_pos, if_neg, fu_self, fu_ne, Int.toNat_natCast, ma_gR_5, ma_l_5, ma_s_5, a5, b5, c1', ea, eb, c2]); rw [B_ma_areAlike_15]; (try simp (disch := omega) only [Option.bind_some, if_true, if_false, eq_self, not_true_eq_false, not_false_eq_true, am_w_id, if_pos, if_neg, fu_self, fu_ne, Int.toNat_natCast, ma_O, a5, b5, c1', ea, eb, c2]); rw [B_ma_areAlike_28]; (try simp (disch := omega) only [Option.bind_some, if_true, if_false, eq_self, not_true_eq_false, not_false_eq_true, am_w_id, if_pos, if_neg, fu_self, fu_ne, Int.toNat_natCast, a5, b5, c1', ea, eb, c2])
    · have c1' : ¬ (sz ws (pn ws a) : Int) = (sz ws (pn ws b) : Int) := by omega
      refine ⟨0, ?_, Or.inr ⟨rfl, fun h => c1 h.1⟩⟩
      (try dsimp only); rw [en_ma_areAlike]; (try simp (disch := omega) only [Option.bind_some, if_true, if_false, eq_self, not_true_eq_false, not_false_eq_true, am_w_id, if_pos, if_neg, fu_self, fu_ne, Int.toNat_natCast, a5, b5, c1']); rw [B_ma_areAlike_0]; (try simp (disch := omega) only [Option.bind_some, if_true, if_false, eq_self, not_true_eq_false, not_false_eq_true, am_w_id, if_pos, if_neg, fu_self, fu_ne, Int.toNat_natCast, ma_gR_5, ma_l_5, ma_s_5, a5, b5, c1']); rw [B_ma_areAlike_28]; (try simp (disch := omega) only [Option.bind_some, if_true, if_false, eq_self, not_true_eq_false, not_false_eq_true, am_w_id, if_pos, if_neg, fu_self, fu_ne, Int.toNat_natCast, a5, b5, c1'])
  obtain ⟨x, e, h⟩ := key
  exact ⟨x, am_cI_of e, h⟩
/-- where a node is looked for: by what it ends with and what goes on from it -/
def hf1 (h : Int) (x : Int × (Int × Int)) : Int := am_w (am_w (am_w (am_w (am_w (am_w (h * 31) + x.1) * 31) + x.2.1) * 31) + x.2.2)
def hfn (e : Int) (l : List (Int × (Int × Int))) : Int := am_w (am_w (l.foldl hf1 e + am_ushr (l.foldl hf1 e) 10) + am_ushr (l.foldl hf1 e) 20)
theorem ma_hashOf (hok : ok ws) (H : maN S ws) {k : Nat} (hk : k < nN ws) (d : Nat) : am_cI (d + 1) N_ma_hashOf [.inr (.inr (some (q))), .inl ((k : Int))] (maH q g S) = some (hfn (en ws (pn ws k)) (sg ws (S 6) k), maH q g S) := by
  have hs := hok.2.1
  have hN' : nN ws ≤ 1001 := ND_len hok
  have k5 := (H.2.2.2 k hk).2
  have sk := szk_le hs hk
  have ek := fun d => ma_endsWith (q := q) (g := g) hok H hk d
  have hx0 := nx_0 hs hk
  apply am_cI_of
  have e1 : am_w ((k : Int) + (sz ws (pn ws k) : Int)) = ((k + sz ws (pn ws k) : Nat) : Int) := by rw [am_w_id (by omega) (by omega)]; omega
  have e2 : am_w ((k : Int) + 1) = (nx ws k 0 : Int) := by rw [am_w_id (by omega) (by omega)]; omega
  rw [en_ma_hashOf, B_ma_hashOf_0, if_pos ma_O, ek, Option.bind_some]
  dsimp only
  rw [ma_gR_5, Option.bind_some, ma_l_5 (by omega) (by omega), Option.bind_some, Int.toNat_natCast, k5, e1, e2]
  have lp := am_for (F := fun i => EV (d + 1) N_ma_hashOf T_ma_hashOf_20 [.inr (.inr (some (q))), .inl ((k : Int)), .inl (((sg ws (S 6) k).take i).foldl hf1 (en ws (pn ws k))), .inl (((k + sz ws (pn ws k) : Nat) : Int)), .inl ((nx ws k i : Int))] [] (maH q g S)) (k := 0) (n := (kd ws k).length) (Nat.zero_le _) (fun i _ hi => by
    have hx := (nx_in hi).1
    have hlt := (nx_iff hs hk).mp hi
    have hxN := kd_lt hx
    have x0 := (H.2.1 _ hxN).1
    have x5 := (H.2.2.2 _ hxN).2
    have ox := fun d => ma_outputTo (q := q) (g := g) hok H hxN d
    rw [out_kd hx] at ox
    have hga := sg_get (ws := ws) (tw := S 6) hi
    have hnxa := nx_s hs hk hi
    have hszx := sz_pos hs (pn_bg hxN)
    have hszl := szk_le hs hxN
    have hmx : am_max 1 (sz ws (pn ws (nx ws k i)) : Int) = (sz ws (pn ws (nx ws k i)) : Int) := mx1 (by omega)
    have e8 : (nx ws k i : Int) + (sz ws (pn ws (nx ws k i)) : Int) = (nx ws k (i + 1) : Int) := by omega
    rw [tk_s hga, List.foldl_append, List.foldl_cons, List.foldl_nil]
    rw [B_ma_hashOf_20, if_neg (by omega), B_ma_hashOf_26, ma_gR_0, Option.bind_some, ma_l_0 (by omega) (by omega), Option.bind_some, Int.toNat_natCast, x0, if_pos ma_O, ox, Option.bind_some]
    dsimp only
    rw [ma_gR_6, Option.bind_some, ma_l_6 (by omega) (by omega), Option.bind_some, Int.toNat_natCast, ma_gR_5, Option.bind_some, ma_l_5 (by omega) (by omega), Option.bind_some, Int.toNat_natCast, x5, hmx, e8, am_w_id (x := (nx ws k (i + 1) : Int)) (by omega) (by omega)]
    rfl)
  have e3 := nx_end (ws := ws) (k := k) (i := (kd ws k).length) (Nat.le_refl _)
  have la : (sg ws (S 6) k).length = (kd ws k).length := List.length_map _
  rw [e3, ← la, List.take_length] at lp
  refine Eq.trans lp ?_
  rw [B_ma_hashOf_20, if_pos (by omega), B_ma_hashOf_83]
  rfl
end MA
