/-! the class: a machine packed -/
/-- the bytes so far, of which 400 at most are held -/
def pbR (S : Nat → Nat → Int) (B : List Int) : Prop := S 1 0 = ((min B.length 400 : Nat) : Int) ∧ S 2 0 = (if B.length ≤ 400 then 0 else 1) ∧ ∀ i, i < B.length → i < 400 → S 0 i = B.getD i 0
section PA
variable {p q : Nat} {g : am_H} {S M : Nat → Nat → Int} {ws : List wd} {B : List Int}
theorem pa_addByte (H : pbR S B) (x : Int) (d : Nat) : ∃ S', am_cV d N_pa_addByte [.inr (.inr (some (p))), .inl (x)] (paH p g S) = some (paH p g S') ∧ pbR S' (B ++ [x]) := by
  obtain ⟨h1, h2, h3⟩ := H
  have hlen : (B ++ [x]).length = B.length + 1 := by simp
  by_cases c : B.length < 400
  · have h1' : S 1 0 = (B.length : Int) := by rw [h1]; omega
    have e9 : (B.length : Int) + 1 = ((B.length + 1 : Nat) : Int) := by omega
    obtain ⟨T1, hT1⟩ : ∃ T, T = am_fu S 0 (am_fu (S 0) B.length x) := ⟨_, rfl⟩
    have t1 : T1 1 0 = (B.length : Int) := by rw [hT1, fu_ne (by decide)]; exact h1'
    refine ⟨am_fu T1 1 (fun _ => ((B.length + 1 : Nat) : Int)), am_cV_of ?_, ?_, ?_, fun i hi hi4 => ?_⟩
    · (try dsimp only); rw [en_pa_addByte]; (try simp (disch := omega) only [Option.bind_some, if_true, if_false, eq_self, not_true_eq_false, not_false_eq_true, am_w_id, if_pos, if_neg, fu_self, fu_ne, Int.toNat_natCast, h1', hT1.symm, t1, e9]); rw [B_pa_addByte_0]; (try simp (disch := omega) only [Option.bind_some, if_true, if_false, eq_self, not_true_eq_false, not_false_eq_true, am_w_id, if_pos, if_neg, fu_self, fu_ne, Int.toNat_natCast, pa_gI_1, pa_p_1, h1', hT1.symm, t1, e9]); rw [B_pa_addByte_16]; (try simp (disch := omega) only [Option.bind_some, if_true, if_false, eq_self, not_true_eq_false, not_false_eq_true, am_w_id, if_pos, if_neg, fu_self, fu_ne, Int.toNat_natCast, pa_gR_0, pa_l_0, pa_s_0, pa_gI_1, pa_p_1, h1', hT1.symm, t1, e9])
    · rw [fu_self, hlen, show min (B.length + 1) 400 = B.length + 1 by omega]
    · rw [fu_ne (by decide), hT1, fu_ne (by decide), h2, if_pos (by omega), if_pos (by omega)]
    · rw [fu_ne (by decide), hT1, fu_self]
      by_cases ci : i = B.length
      · rw [ci, fu_self, gd_r (Nat.le_refl _), Nat.sub_self]; rfl
      · rw [fu_ne ci, gd_l (by omega)]
        exact h3 i (by omega) hi4
  · have h1' : S 1 0 = 400 := by rw [h1]; omega
    refine ⟨am_fu S 2 (fun _ => 1), am_cV_of ?_, ?_, ?_, fun i hi hi4 => ?_⟩
    · (try dsimp only); rw [en_pa_addByte]; (try simp (disch := omega) only [Option.bind_some, if_true, if_false, eq_self, not_true_eq_false, not_false_eq_true, am_w_id, if_pos, if_neg, fu_self, fu_ne, Int.toNat_natCast, h1', show ¬ (400 : Int) < 400 by decide]); rw [B_pa_addByte_0]; (try simp (disch := omega) only [Option.bind_some, if_true, if_false, eq_self, not_true_eq_false, not_false_eq_true, am_w_id, if_pos, if_neg, fu_self, fu_ne, Int.toNat_natCast, pa_gI_1, pa_p_1, h1', show ¬ (400 : Int) < 400 by decide]); rw [B_pa_addByte_10]; (try simp (disch := omega) only [Option.bind_some, if_true, if_false, eq_self, not_true_eq_false, not_false_eq_true, am_w_id, if_pos, if_neg, fu_self, fu_ne, Int.toNat_natCast, pa_gI_2, pa_p_2, h1', show ¬ (400 : Int) < 400 by decide])
    · rw [fu_ne (by decide), h1', hlen]; omega
    · rw [fu_self, hlen, if_neg (by omega)]
    · rw [fu_ne (by decide), gd_l (by omega)]
      exact h3 i (by omega) hi4
theorem pa_addLoop (x1 : Int) (d : Nat) : ∀ (n m i : Nat) (v : Int) (S : Nat → Nat → Int) (B : List Int), i + n = 5 → 1 ≤ n → 1 ≤ i → n ≤ m + 1 → 0 ≤ v → v < 2147483648 → v < 128 ^ n → pbR S B → ∃ S', EV (d + 1) N_pa_addNumber T_pa_addNumber_4 [.inr (.inr (some (p))), .inl (x1), .inl (v), .inl ((i : Int))] [] (paH p g S) = some (none, paH p g S') ∧ pbR S' (B ++ enF m v) := by
  intro n
  induction n with
  | zero => intro m i v S B _ h; omega
  | succ n ih =>
    intro m i v S B hi hn hi1 hm h0 hv h1 H
    have fin : (4 ≤ (i : Int) ∨ v ≤ 127) → ∃ S', EV (d + 1) N_pa_addNumber T_pa_addNumber_4 [.inr (.inr (some (p))), .inl (x1), .inl (v), .inl ((i : Int))] [] (paH p g S) = some (none, paH p g S') ∧ pbR S' (B ++ enF m v) := by
      intro hc
      have hv127 : v ≤ 127 := by
        rcases hc with hc | hc
        · have : n = 0 := by omega
          subst this
          rw [show (128 : Int) ^ (0 + 1) = 128 from rfl] at h1
          omega
        · exact hc
      obtain ⟨S', e, r⟩ := pa_addByte (p := p) (g := g) H v d
      have he : enF m v = [v] := by
        cases m with
        | zero => rfl
        | succ m => unfold enF; rw [if_pos hv127]
      rw [he]
      refine ⟨S', ?_, r⟩
      by_cases c4 : 4 ≤ (i : Int)
      · (try dsimp only); rw [B_pa_addNumber_4]; (try simp (disch := omega) only [Option.bind_some, if_true, if_false, eq_self, not_true_eq_false, not_false_eq_true, am_w_id, if_pos, if_neg, fu_self, fu_ne, Int.toNat_natCast, c4, e]); rw [B_pa_addNumber_38]; (try simp (disch := omega) only [Option.bind_some, if_true, if_false, eq_self, not_true_eq_false, not_false_eq_true, am_w_id, if_pos, if_neg, fu_self, fu_ne, Int.toNat_natCast, pa_O, c4, e])
      · (try dsimp only); rw [B_pa_addNumber_4]; (try simp (disch := omega) only [Option.bind_some, if_true, if_false, eq_self, not_true_eq_false, not_false_eq_true, am_w_id, if_pos, if_neg, fu_self, fu_ne, Int.toNat_natCast, c4, hv127, e]); rw [B_pa_addNumber_9]; (try simp (disch := omega) only [Option.bind_some, if_true, if_false, eq_self, not_true_eq_false, not_false_eq_true, am_w_id, if_pos, if_neg, fu_self, fu_ne, Int.toNat_natCast, c4, hv127, e]); rw [B_pa_addNumber_38]; (try simp (disch := omega) only [Option.bind_some, if_true, if_false, eq_self, not_true_eq_false, not_false_eq_true, am_w_id, if_pos, if_neg, fu_self, fu_ne, Int.toNat_natCast, pa_O, c4, hv127, e])
    by_cases c1 : 4 ≤ (i : Int)
    · exact fin (Or.inl c1)
    · by_cases c2 : v ≤ 127
      · exact fin (Or.inr c2)
      · have hm7 : am_and v 127 = v % 128 := bt_mask (x := v) (by unfold am_inI; omega) 7 (by omega)
        have hor : am_or (v % 128) 128 = v % 128 + 128 := by
          rw [bt_or (by omega) (by omega) (by omega) (by omega)]
          have := or128 ⟨(v % 128).toNat, by omega⟩
          dsimp only at this
          rw [show (128 : Int).toNat = 128 from rfl, this]
          omega
        have hsh : am_shr v 7 = v / 128 := bt_shr (x := v) (y := 7) (by unfold am_inI; omega) (by omega) (by omega)
        obtain ⟨S1, e1, r1⟩ := pa_addByte (p := p) (g := g) H (v % 128 + 128) d
        obtain ⟨m', rfl⟩ : ∃ m', m = m' + 1 := ⟨m - 1, by omega⟩
        obtain ⟨S', e, r⟩ := ih m' (i + 1) (v / 128) S1 _ (by omega) (by omega) (by omega) (by omega) (by omega) (by omega) (Int.ediv_lt_of_lt_mul (by decide) (by rw [← Int.pow_succ]; exact h1)) r1
        have hE : enF (m' + 1) v = (v % 128 + 128) :: enF m' (v / 128) := by rw [enF, if_neg c2]
        refine ⟨S', Eq.trans ?_ e, ?_⟩
        · have e9 : (i : Int) + 1 = ((i + 1 : Nat) : Int) := by omega
          (try dsimp only); rw [B_pa_addNumber_4]; (try simp (disch := omega) only [Option.bind_some, if_true, if_false, eq_self, not_true_eq_false, not_false_eq_true, am_w_id, if_pos, if_neg, fu_self, fu_ne, Int.toNat_natCast, c1, c2, hm7, hor, hsh, e1, e9]); rw [B_pa_addNumber_9]; (try simp (disch := omega) only [Option.bind_some, if_true, if_false, eq_self, not_true_eq_false, not_false_eq_true, am_w_id, if_pos, if_neg, fu_self, fu_ne, Int.toNat_natCast, c1, c2, hm7, hor, hsh, e1, e9]); rw [B_pa_addNumber_15]; (try simp (disch := omega) only [Option.bind_some, if_true, if_false, eq_self, not_true_eq_false, not_false_eq_true, am_w_id, if_pos, if_neg, fu_self, fu_ne, Int.toNat_natCast, pa_O, c1, c2, hm7, hor, hsh, e1, e9])
        · rw [hE]
          rwa [List.append_assoc] at r
theorem pa_addNumber (H : pbR S B) {v : Int} (h0 : 0 ≤ v) (h1 : v < 268435456) (d : Nat) : ∃ S', am_cV (d + 1) N_pa_addNumber [.inr (.inr (some (p))), .inl (v)] (paH p g S) = some (paH p g S') ∧ pbR S' (B ++ enc v) := by
  obtain ⟨S', e, r⟩ := pa_addLoop (p := p) (g := g) v d 4 4 1 v S B (by omega) (by omega) (by omega) (by omega) h0 (by omega) (by rw [show (128 : Int) ^ 4 = 268435456 by decide]; exact h1) H
  refine ⟨S', am_cV_of (Eq.trans ?_ e), r⟩
  rw [en_pa_addNumber, B_pa_addNumber_0]
  rfl
theorem pa_ma (HM : maH q g M = g) (hd : q + 15 ≤ p ∨ p + 2 ≤ q) (S : Nat → Nat → Int) : maH q (paH p g S) M = paH p g S := maH_keep HM paH_fr hd
theorem pa_addState (hok : ok ws) (H : maF M ws) (HM : maH q g M = g) (hd : q + 15 ≤ p ∨ p + 2 ≤ q) {s : Nat} (hs : s < nS ws) (HB : pbR S B) (d : Nat) : ∃ S', am_cV (d + 2) N_pa_addState [.inr (.inr (some (p))), .inr (.inr (some (q))), .inl ((s : Int))] (paH p g S) = some (paH p g S') ∧ pbR S' (B ++ stN ws (fn ws s)) := by
  have hN' : nN ws ≤ 1001 := ND_len hok
  have hn2 := nS_le hok
  obtain ⟨hf, hfg⟩ := fst_lt hs
  have K := fun S => pa_ma (p := p) HM hd S
  have k8 : ∀ S, am_lI (paH p g S) (q + 9) (s : Int) = some (fn ws s : Int) := fun S => by
    have := ma_l_8 (q := q) (g := paH p g S) (S := M) (i := (s : Int)) (by omega) (by omega)
    rw [K S, Int.toNat_natCast, H.2.1.2.1 s hs] at this
    exact this
  have r8 : ∀ S, am_gR (paH p g S) q 5 8 = some (q + 9) := fun S => by have := ma_gR_8 (q := q) (g := paH p g S) (S := M); rw [K S] at this; exact this
  have mO : ∀ S, am_isO (paH p g S) q 5 = true := fun S => by have := ma_O (q := q) (g := paH p g S) (S := M); rw [K S] at this; exact this
  have aF : ∀ S d, am_cI d N_ma_arcsFrom [.inr (.inr (some (q))), .inl ((s : Int))] (paH p g S) = some (((kd ws (fn ws s)).length : Int), paH p g S) := fun S d => by have := ma_arcsFrom (q := q) (g := paH p g S) hok H hs d; rw [K S] at this; exact this
  have eW : ∀ S d, am_cI d N_ma_endsWith [.inr (.inr (some (q))), .inl ((fn ws s : Int))] (paH p g S) = some (en ws (pn ws (fn ws s)), paH p g S) := fun S d => by have := ma_endsWith (q := q) (g := paH p g S) hok H.1 hf d; rw [K S] at this; exact this
  have h53 : (kd ws (fn ws s)).length ≤ 26 := by
    have := mach_mM hok _ (List.mem_map.mpr ⟨_, List.mem_of_getElem? hfg, rfl⟩)
    have := arc_len this.2
    rwa [show (stM ws (fn ws s)).2 = (kd ws (fn ws s)).map (stA ws (fn ws s)) from rfl, List.length_map] at this
  -- the arcs
  have arcs : ∀ (m i : Nat) (S : Nat → Nat → Int) (B : List Int) (x4 : Int) (j6 : am_V), i + m = (kd ws (fn ws s)).length → pbR S B → ∃ S', EV (d + 2) N_pa_addState T_pa_addState_54 [.inr (.inr (some (p))), .inr (.inr (some (q))), .inl ((s : Int)), .inl ((fn ws s : Int)), .inl (x4), .inl ((i : Int)), j6] [] (paH p g S) = some (none, paH p g S') ∧ pbR S' (B ++ ((kd ws (fn ws s)).drop i).flatMap (kN ws (fn ws s))) := by
    intro m
    induction m with
    | zero =>
      intro i S B x4 j6 hi HB
      have aF' := aF S
      rw [show (kd ws (fn ws s)).length = i by omega] at aF'
      refine ⟨S, ?_, ?_⟩
      · (try dsimp only); rw [B_pa_addState_54]; (try simp (disch := omega) only [Option.bind_some, if_true, if_false, eq_self, not_true_eq_false, not_false_eq_true, am_w_id, if_pos, if_neg, fu_self, fu_ne, Int.toNat_natCast, pa_O, mO, aF']); rw [B_pa_addState_111]; (try simp (disch := omega) only [Option.bind_some, if_true, if_false, eq_self, not_true_eq_false, not_false_eq_true, am_w_id, if_pos, if_neg, fu_self, fu_ne, Int.toNat_natCast, mO, aF'])
      · rw [List.drop_of_length_le (by omega), List.flatMap_nil, List.append_nil]; exact HB
    | succ m ih =>
      intro i S B x4 j6 hi HB
      have hil : i < (kd ws (fn ws s)).length := by omega
      obtain ⟨c, hc⟩ : ∃ c, (kd ws (fn ws s))[i]? = some c := ⟨_, List.getElem?_eq_getElem hil⟩
      have hcm := List.mem_of_getElem? hc
      have hcN := kd_lt hcm
      have hgd : (kd ws (fn ws s)).getD i 0 = c := by rw [List.getD_eq_getElem?_getD, hc]; rfl
      have aN : ∀ S d, am_cI d N_ma_arcNode [.inr (.inr (some (q))), .inl ((s : Int)), .inl ((i : Int))] (paH p g S) = some ((c : Int), paH p g S) := fun S d => by have := ma_arcNode (q := q) (g := paH p g S) hok H hs hil d; rw [K S, hgd] at this; exact this
      have oT : ∀ S d, am_cI d N_ma_outputTo [.inr (.inr (some (q))), .inl ((c : Int))] (paH p g S) = some (lst ws (pn ws c) - lst ws (pn ws (fn ws s)), paH p g S) := fun S d => by have := ma_outputTo (q := q) (g := paH p g S) hok H.1 hcN d; rw [K S, out_kd hcm] at this; exact this
      have r0 : ∀ S, am_gR (paH p g S) q 5 0 = some (q + 1) := fun S => by have := ma_gR_0 (q := q) (g := paH p g S) (S := M); rw [K S] at this; exact this
      have r7 : ∀ S, am_gR (paH p g S) q 5 7 = some (q + 8) := fun S => by have := ma_gR_7 (q := q) (g := paH p g S) (S := M); rw [K S] at this; exact this
      have l0 : ∀ S, am_lI (paH p g S) (q + 1) (c : Int) = some (ll ws c) := fun S => by
        have := ma_l_0 (q := q) (g := paH p g S) (S := M) (i := (c : Int)) (by omega) (by omega)
        rw [K S, Int.toNat_natCast, (H.1.2.1 c hcN).1] at this
        exact this
      have l7 : ∀ S, am_lI (paH p g S) (q + 8) (c : Int) = some (stt ws c : Int) := fun S => by
        have := ma_l_7 (q := q) (g := paH p g S) (S := M) (i := (c : Int)) (by omega) (by omega)
        rw [K S, Int.toNat_natCast, H.2.1.2.2 c hcN] at this
        exact this
      have b1 := ll_bd hok hf hcm
      have b2 := lst_kd hok hf hcm
      have b3 := lst_bd hok.1 (pn ws c)
      have b4 := lst_bd hok.1 (pn ws (fn ws s))
      have b5 := stt_lt (ws := ws) hcN
      obtain ⟨S1, e1, g1⟩ := pa_addNumber (p := p) (g := g) HB (v := ll ws c) (by omega) (by omega) d
      obtain ⟨S2, e2, g2⟩ := pa_addNumber (p := p) (g := g) g1 (v := lst ws (pn ws c) - lst ws (pn ws (fn ws s))) (by omega) (by omega) d
      obtain ⟨S3, e3, g3⟩ := pa_addNumber (p := p) (g := g) g2 (v := (stt ws c : Int)) (by omega) (by omega) d
      obtain ⟨S', e, r⟩ := ih (i + 1) S3 _ x4 (.inl ((c : Int))) (by omega) g3
      refine ⟨S', Eq.trans ?_ e, ?_⟩
      · have e9 : (i : Int) + 1 = ((i + 1 : Nat) : Int) := by omega
        have cle : ¬ ((kd ws (fn ws s)).length : Int) ≤ (i : Int) := by omega
        (try dsimp only); rw [B_pa_addState_54]; (try simp (disch := omega) only [Option.bind_some, if_true, if_false, eq_self, not_true_eq_false, not_false_eq_true, am_w_id, if_pos, if_neg, fu_self, fu_ne, Int.toNat_natCast, pa_O, mO, aF, cle, aN, r0, l0, e1, oT, e2, r7, l7, e3, e9]); rw [B_pa_addState_64]; (try simp (disch := omega) only [Option.bind_some, if_true, if_false, eq_self, not_true_eq_false, not_false_eq_true, am_w_id, if_pos, if_neg, fu_self, fu_ne, Int.toNat_natCast, pa_O, mO, aF, cle, aN, r0, l0, e1, oT, e2, r7, l7, e3, e9])
      · have hdr : (kd ws (fn ws s)).drop i = c :: (kd ws (fn ws s)).drop (i + 1) := by
          rw [List.drop_eq_getElem_cons hil]
          congr 1
          exact (List.getElem?_eq_some_iff.mp hc).2
        rw [hdr, List.flatMap_cons]
        unfold kN at r ⊢
        rw [List.append_assoc, List.append_assoc, List.append_assoc] at r
        rw [List.append_assoc, List.append_assoc]
        exact r
  have f0 : ∀ (S : Nat → Nat → Int) (B : List Int) (x4 : Int) (j5 j6 : am_V), pbR S B → ∃ S', EV (d + 2) N_pa_addState T_pa_addState_51 [.inr (.inr (some (p))), .inr (.inr (some (q))), .inl ((s : Int)), .inl ((fn ws s : Int)), .inl (x4), j5, j6] [] (paH p g S) = some (none, paH p g S') ∧ pbR S' (B ++ (kd ws (fn ws s)).flatMap (kN ws (fn ws s))) := by
    intro S B x4 j5 j6 HB
    obtain ⟨S', e, r⟩ := arcs (kd ws (fn ws s)).length 0 S B x4 j6 (by omega) HB
    rw [List.drop_zero] at r
    refine ⟨S', Eq.trans ?_ e, r⟩
    rw [B_pa_addState_51]
    rfl
  unfold stN stH
  have w2 : am_w (2 * ((kd ws (fn ws s)).length : Int)) = 2 * ((kd ws (fn ws s)).length : Int) := am_w_id (by omega) (by omega)
  by_cases ce : en ws (pn ws (fn ws s)) = -2
  · rw [if_pos ce, if_pos ce, List.append_nil]
    obtain ⟨S1, e1, g1⟩ := pa_addNumber (p := p) (g := g) HB (v := 2 * ((kd ws (fn ws s)).length : Int) + 0) (by omega) (by omega) d
    obtain ⟨S', e, r⟩ := f0 S1 _ (-2) am_nul am_nul g1
    refine ⟨S', am_cV_of (Eq.trans ?_ e), by rwa [List.append_assoc] at r⟩
    rw [ce] at eW
    have c2 : ¬ ¬ (-2 : Int) = -2 := by decide
    (try dsimp only); rw [en_pa_addState]; (try simp (disch := omega) only [Option.bind_some, if_true, if_false, eq_self, not_true_eq_false, not_false_eq_true, am_w_id, if_pos, if_neg, fu_self, fu_ne, Int.toNat_natCast, r8, k8, mO, eW, aF, w2]); rw [B_pa_addState_0]; (try simp (disch := omega) only [Option.bind_some, if_true, if_false, eq_self, not_true_eq_false, not_false_eq_true, am_w_id, if_pos, if_neg, fu_self, fu_ne, Int.toNat_natCast, pa_O, r8, k8, mO, eW, aF, w2]); rw [B_pa_addState_29]; (try simp (disch := omega) only [Option.bind_some, if_true, if_false, eq_self, not_true_eq_false, not_false_eq_true, am_w_id, if_pos, if_neg, fu_self, fu_ne, Int.toNat_natCast, r8, k8, mO, eW, aF, w2])
    rw [B_pa_addState_34, if_pos pa_O, am_w_id (by omega) (by omega), e1, Option.bind_some, if_pos rfl]
  · rw [if_neg ce, if_neg ce]
    have be := en_bd hok ce
    obtain ⟨S1, e1, g1⟩ := pa_addNumber (p := p) (g := g) HB (v := 2 * ((kd ws (fn ws s)).length : Int) + 1) (by omega) (by omega) d
    obtain ⟨S2, e2, g2⟩ := pa_addNumber (p := p) (g := g) g1 (v := en ws (pn ws (fn ws s))) (by omega) (by omega) d
    obtain ⟨S', e, r⟩ := f0 S2 _ (en ws (pn ws (fn ws s))) am_nul am_nul g2
    refine ⟨S', am_cV_of (Eq.trans ?_ e), by
      rw [List.append_assoc, List.append_assoc] at r
      rw [List.append_assoc]
      exact r⟩
    (try dsimp only); rw [en_pa_addState]; (try simp (disch := omega) only [Option.bind_some, if_true, if_false, eq_self, not_true_eq_false, not_false_eq_true, am_w_id, if_pos, if_neg, fu_self, fu_ne, Int.toNat_natCast, r8, k8, mO, eW, aF, w2, ce]); rw [B_pa_addState_0]; (try simp (disch := omega) only [Option.bind_some, if_true, if_false, eq_self, not_true_eq_false, not_false_eq_true, am_w_id, if_pos, if_neg, fu_self, fu_ne, Int.toNat_natCast, pa_O, r8, k8, mO, eW, aF, w2, ce]); rw [B_pa_addState_33]; (try simp (disch := omega) only [Option.bind_some, if_true, if_false, eq_self, not_true_eq_false, not_false_eq_true, am_w_id, if_pos, if_neg, fu_self, fu_ne, Int.toNat_natCast, r8, k8, mO, eW, aF, w2, ce])
    rw [B_pa_addState_34, if_pos pa_O, am_w_id (by omega) (by omega), e1, Option.bind_some, if_neg ce, B_pa_addState_45, if_pos pa_O, e2, Option.bind_some]
theorem pa_write (hok : ok ws) (H : maF M ws) (HM : maH q g M = g) (hd : q + 15 ≤ p ∨ p + 2 ≤ q) (d : Nat) : ∃ S', am_cI (d + 3) N_pa_write [.inr (.inr (some (p))), .inr (.inr (some (q)))] (paH p g S) = some (if (pkE ws).length ≤ 400 then 1 else 0, paH p g S') ∧ ((pkE ws).length ≤ 400 → pbR S' (pkE ws)) := by
  have hN' : nN ws ≤ 1001 := ND_len hok
  have hn2 := nS_le hok
  have K := fun S => pa_ma (p := p) HM hd S
  have g15 : ∀ S, am_gI (paH p g S) q 5 15 = some (nS ws : Int) := fun S => by have := ma_gI_15 (q := q) (g := paH p g S) (S := M); rw [K S, H.2.1.1] at this; exact this
  have r4 : ∀ S, am_gR (paH p g S) q 5 4 = some (q + 5) := fun S => by have := ma_gR_4 (q := q) (g := paH p g S) (S := M); rw [K S] at this; exact this
  have l4 : ∀ S, am_lI (paH p g S) (q + 5) 0 = some (lst ws []) := fun S => by
    have := ma_l_4 (q := q) (g := paH p g S) (S := M) (i := 0) (by omega) (by omega)
    rw [K S, Int.toNat_zero, (H.1.2.2.2 0 nN_pos).1, pn0] at this
    exact this
  have hb := lst_bd hok.1 []
  obtain ⟨S0, hS0⟩ : ∃ S0, S0 = am_fu (am_fu S 1 (fun _ => 0)) 2 (fun _ => 0) := ⟨_, rfl⟩
  have P0 : pbR S0 [] := by
    refine ⟨?_, ?_, fun i hi => by simp at hi⟩
    · rw [hS0, fu_ne (by decide), fu_self]; rfl
    · rw [hS0, fu_self]; rfl
  obtain ⟨S1, e1, g1⟩ := pa_addNumber (p := p) (g := g) P0 (v := (nS ws : Int)) (by omega) (by omega) (d + 1)
  obtain ⟨S2, e2, g2⟩ := pa_addNumber (p := p) (g := g) g1 (v := lst ws []) (by omega) (by omega) (d + 1)
  rw [List.nil_append] at g2
  have st : am_call (d + 3) N_pa_write [.inr (.inr (some (p))), .inr (.inr (some (q)))] (paH p g S) = EV (d + 3) N_pa_write T_pa_write_30 [.inr (.inr (some (p))), .inr (.inr (some (q))), .inl (((0 : Nat) : Int))] [] (paH p g S2) := by
    (try dsimp only); rw [en_pa_write]; (try simp (disch := omega) only [Option.bind_some, if_true, if_false, eq_self, not_true_eq_false, not_false_eq_true, am_w_id, if_pos, if_neg, fu_self, fu_ne, Int.toNat_natCast, hS0.symm, g15, e1, r4, l4, e2]); rw [B_pa_write_0]; (try simp (disch := omega) only [Option.bind_some, if_true, if_false, eq_self, not_true_eq_false, not_false_eq_true, am_w_id, if_pos, if_neg, fu_self, fu_ne, Int.toNat_natCast, pa_gI_1, pa_p_1, pa_gI_2, pa_p_2, pa_O, hS0.symm, g15, e1, r4, l4, e2])
    rfl
  -- the end, by what is too long
  have fin : ∀ (S : Nat → Nat → Int) (B : List Int) (x : Int), pbR S B → ∃ b, EV (d + 3) N_pa_write T_pa_write_57 [.inr (.inr (some (p))), .inr (.inr (some (q))), .inl (x)] [] (paH p g S) = some (some (.inl b), paH p g S) ∧ b = (if B.length ≤ 400 then 1 else 0) := by
    intro S B x HB
    have h2 := HB.2.1
    by_cases c : B.length ≤ 400
    · rw [if_pos c] at h2
      refine ⟨1, ?_, by rw [if_pos c]⟩
      (try dsimp only); rw [B_pa_write_57]; (try simp (disch := omega) only [Option.bind_some, if_true, if_false, eq_self, not_true_eq_false, not_false_eq_true, am_w_id, if_pos, if_neg, fu_self, fu_ne, Int.toNat_natCast, pa_gI_2, pa_p_2, h2]); rw [B_pa_write_64]; (try simp (disch := omega) only [Option.bind_some, if_true, if_false, eq_self, not_true_eq_false, not_false_eq_true, am_w_id, if_pos, if_neg, fu_self, fu_ne, Int.toNat_natCast, h2]); rw [B_pa_write_69]; (try simp (disch := omega) only [Option.bind_some, if_true, if_false, eq_self, not_true_eq_false, not_false_eq_true, am_w_id, if_pos, if_neg, fu_self, fu_ne, Int.toNat_natCast, h2])
    · rw [if_neg c] at h2
      refine ⟨0, ?_, by rw [if_neg c]⟩
      (try dsimp only); rw [B_pa_write_57]; (try simp (disch := omega) only [Option.bind_some, if_true, if_false, eq_self, not_true_eq_false, not_false_eq_true, am_w_id, if_pos, if_neg, fu_self, fu_ne, Int.toNat_natCast, pa_gI_2, pa_p_2, h2, show ¬ (1 : Int) = 0 by decide]); rw [B_pa_write_68]; (try simp (disch := omega) only [Option.bind_some, if_true, if_false, eq_self, not_true_eq_false, not_false_eq_true, am_w_id, if_pos, if_neg, fu_self, fu_ne, Int.toNat_natCast, h2, show ¬ (1 : Int) = 0 by decide]); rw [B_pa_write_69]; (try simp (disch := omega) only [Option.bind_some, if_true, if_false, eq_self, not_true_eq_false, not_false_eq_true, am_w_id, if_pos, if_neg, fu_self, fu_ne, Int.toNat_natCast, h2, show ¬ (1 : Int) = 0 by decide])
  have lp : ∀ (m s : Nat) (S : Nat → Nat → Int) (B : List Int), s + m = nS ws → pbR S B → ∃ S' b, EV (d + 3) N_pa_write T_pa_write_30 [.inr (.inr (some (p))), .inr (.inr (some (q))), .inl ((s : Int))] [] (paH p g S) = some (some (.inl b), paH p g S') ∧ b = (if (B ++ ((fst ws).drop s).flatMap (stN ws)).length ≤ 400 then 1 else 0) ∧ ((B ++ ((fst ws).drop s).flatMap (stN ws)).length ≤ 400 → pbR S' (B ++ ((fst ws).drop s).flatMap (stN ws))) := by
    intro m
    induction m with
    | zero =>
      intro s S B hs HB
      obtain rfl : s = nS ws := by omega
      have hdr : (fst ws).drop (nS ws) = [] := List.drop_of_length_le (Nat.le_refl _)
      rw [hdr, List.flatMap_nil, List.append_nil]
      obtain ⟨b, e, hb⟩ := fin S B (nS ws : Int) HB
      refine ⟨S, b, Eq.trans ?_ e, hb, fun _ => HB⟩
      rw [B_pa_write_30, g15, Option.bind_some, if_pos (Int.le_refl _)]
    | succ m ih =>
      intro s S B hs HB
      have hsl : s < nS ws := by omega
      obtain ⟨hf, hfg⟩ := fst_lt hsl
      have hdr : (fst ws).drop s = fn ws s :: (fst ws).drop (s + 1) := by
        rw [List.drop_eq_getElem_cons (show s < (fst ws).length from hsl)]
        congr 1
        exact (List.getElem?_eq_some_iff.mp hfg).2
      by_cases c : B.length ≤ 400
      · obtain ⟨S1, e1, g1⟩ := pa_addState (p := p) (q := q) (g := g) hok H HM hd hsl HB (d + 0)
        obtain ⟨S', b, e, r1, r2⟩ := ih (s + 1) S1 _ (by omega) g1
        have h2 := HB.2.1
        rw [if_pos c] at h2
        rw [hdr, List.flatMap_cons]
        rw [List.append_assoc] at r1 r2
        refine ⟨S', b, Eq.trans ?_ e, r1, r2⟩
        have e9 : (s : Int) + 1 = ((s + 1 : Nat) : Int) := by omega
        have cle : ¬ (nS ws : Int) ≤ (s : Int) := by omega
        have e1' : am_cV (d + 2) N_pa_addState [.inr (.inr (some (p))), .inr (.inr (some (q))), .inl ((s : Int))] (paH p g S) = some (paH p g S1) := e1
        (try dsimp only); rw [B_pa_write_30]; (try simp (disch := omega) only [Option.bind_some, if_true, if_false, eq_self, not_true_eq_false, not_false_eq_true, am_w_id, if_pos, if_neg, fu_self, fu_ne, Int.toNat_natCast, g15, cle, h2, e1', e9]); rw [B_pa_write_38]; (try simp (disch := omega) only [Option.bind_some, if_true, if_false, eq_self, not_true_eq_false, not_false_eq_true, am_w_id, if_pos, if_neg, fu_self, fu_ne, Int.toNat_natCast, pa_gI_2, pa_p_2, g15, cle, h2, e1', e9]); rw [B_pa_write_45]; (try simp (disch := omega) only [Option.bind_some, if_true, if_false, eq_self, not_true_eq_false, not_false_eq_true, am_w_id, if_pos, if_neg, fu_self, fu_ne, Int.toNat_natCast, pa_O, g15, cle, h2, e1', e9])
      · obtain ⟨b, e, hb⟩ := fin S B (s : Int) HB
        have h2 := HB.2.1
        rw [if_neg c] at h2 hb
        have hlong : ¬ (B ++ ((fst ws).drop s).flatMap (stN ws)).length ≤ 400 := by rw [List.length_append]; omega
        refine ⟨S, b, Eq.trans ?_ e, by rw [if_neg hlong]; exact hb, fun h => absurd h hlong⟩
        have cle : ¬ (nS ws : Int) ≤ (s : Int) := by omega
        (try dsimp only); rw [B_pa_write_30]; (try simp (disch := omega) only [Option.bind_some, if_true, if_false, eq_self, not_true_eq_false, not_false_eq_true, am_w_id, if_pos, if_neg, fu_self, fu_ne, Int.toNat_natCast, g15, cle, h2, show ¬ (1 : Int) = 0 by decide]); rw [B_pa_write_38]; (try simp (disch := omega) only [Option.bind_some, if_true, if_false, eq_self, not_true_eq_false, not_false_eq_true, am_w_id, if_pos, if_neg, fu_self, fu_ne, Int.toNat_natCast, pa_gI_2, pa_p_2, g15, cle, h2, show ¬ (1 : Int) = 0 by decide])
  obtain ⟨S', b, e, r1, r2⟩ := lp (nS ws) 0 S2 _ (by omega) g2
  rw [List.drop_zero, List.append_assoc] at r1 r2
  exact ⟨S', am_cI_of ((st.trans e).trans (by rw [r1]; rfl)), r2⟩
theorem pa_isOn {t : List Int} {a : Nat} (HB : pbR S B) (hB : B.length ≤ 400) (T : tp_at g a t) (hd : a + 2 ≤ p ∨ p + 2 ≤ a) (d : Nat) : ∃ x, am_cI d N_pa_isOn [.inr (.inr (some (p))), .inr (.inr (some (a)))] (paH p g S) = some (x, paH p g S) ∧ ((x = 1 ∧ B = t) ∨ (x = 0 ∧ B ≠ t)) := by
  obtain ⟨t1, t2, t3, C, t4, t5⟩ := T
  have t1' : (paH p g S).2 a = .inr (7, [.inr (.inr (some (a + 1))), .inl (t.length : Int)]) := by rw [paH_out (by omega)]; exact t1
  have t4' : (paH p g S).2 (a + 1) = .inl (0, 400, .inl C) := by rw [paH_out (by omega)]; exact t4
  have g1 : am_gI (paH p g S) a 7 1 = some (t.length : Int) := rd_gI t1' rfl
  have g0 : am_gR (paH p g S) a 7 0 = some (a + 1) := rd_gR t1' rfl
  obtain ⟨h1, h2, h3⟩ := HB
  rw [show min B.length 400 = B.length by omega] at h1
  have key : ∃ x, am_call d N_pa_isOn [.inr (.inr (some (p))), .inr (.inr (some (a)))] (paH p g S) = some (some (.inl x), paH p g S) ∧ ((x = 1 ∧ B = t) ∨ (x = 0 ∧ B ≠ t)) := by
    by_cases cl : t.length = B.length
    · have cl' : (t.length : Int) = (B.length : Int) := by omega
      have st : am_call d N_pa_isOn [.inr (.inr (some (p))), .inr (.inr (some (a)))] (paH p g S) = EV d N_pa_isOn T_pa_isOn_15 [.inr (.inr (some (p))), .inr (.inr (some (a))), .inl (((0 : Nat) : Int))] [] (paH p g S) := by
        (try dsimp only); rw [en_pa_isOn]; (try simp (disch := omega) only [Option.bind_some, if_true, if_false, eq_self, not_true_eq_false, not_false_eq_true, am_w_id, if_pos, if_neg, fu_self, fu_ne, Int.toNat_natCast, g1, h1, cl']); rw [B_pa_isOn_0]; (try simp (disch := omega) only [Option.bind_some, if_true, if_false, eq_self, not_true_eq_false, not_false_eq_true, am_w_id, if_pos, if_neg, fu_self, fu_ne, Int.toNat_natCast, pa_gI_1, pa_p_1, g1, h1, cl']); rw [B_pa_isOn_13]; (try simp (disch := omega) only [Option.bind_some, if_true, if_false, eq_self, not_true_eq_false, not_false_eq_true, am_w_id, if_pos, if_neg, fu_self, fu_ne, Int.toNat_natCast, g1, h1, cl'])
        rfl
      rw [st]
      refine am_loop (S := Nat) (F := fun k => EV d N_pa_isOn T_pa_isOn_15 [.inr (.inr (some (p))), .inr (.inr (some (a))), .inl ((k : Int))] [] (paH p g S)) (I := fun k => k ≤ B.length ∧ ∀ i, i < k → B.getD i 0 = t.getD i 0) (R := fun o => ∃ x, o = some (some (.inl x), paH p g S) ∧ ((x = 1 ∧ B = t) ∨ (x = 0 ∧ B ≠ t))) (fun k => B.length - k) ?_ 0 ⟨Nat.zero_le _, fun i hi => by omega⟩
      rintro k ⟨k1, k2⟩
      by_cases c1 : k = B.length
      · left
        refine ⟨1, ?_, Or.inl ⟨rfl, getD_ext cl.symm (fun i hi => k2 i (by omega))⟩⟩
        rw [c1]
        (try dsimp only); rw [B_pa_isOn_15]; (try simp (disch := omega) only [Option.bind_some, if_true, if_false, eq_self, not_true_eq_false, not_false_eq_true, am_w_id, if_pos, if_neg, fu_self, fu_ne, Int.toNat_natCast, pa_gI_1, pa_p_1, h1]); rw [B_pa_isOn_46]; (try simp (disch := omega) only [Option.bind_some, if_true, if_false, eq_self, not_true_eq_false, not_false_eq_true, am_w_id, if_pos, if_neg, fu_self, fu_ne, Int.toNat_natCast, h1])
      · have b0 := h3 k (by omega) (by omega)
        have l0 : am_lI (paH p g S) (a + 1) (k : Int) = some (t.getD k 0) := by rw [rd_lI t4' (by omega) (by omega), Int.toNat_natCast, t5 k (by omega)]
        by_cases c2 : B.getD k 0 = t.getD k 0
        · right
          refine ⟨k + 1, ⟨by omega, fun i hi => ?_⟩, by omega, ?_⟩
          · by_cases e9 : i = k
            · rw [e9]; exact c2
            · exact k2 i (by omega)
          · have e9 : (k : Int) + 1 = ((k + 1 : Nat) : Int) := by omega
            (try dsimp only); rw [B_pa_isOn_15]; (try simp (disch := omega) only [Option.bind_some, if_true, if_false, eq_self, not_true_eq_false, not_false_eq_true, am_w_id, if_pos, if_neg, fu_self, fu_ne, Int.toNat_natCast, pa_gI_1, pa_p_1, h1, g0, l0, b0, c2, e9]); rw [B_pa_isOn_23]; (try simp (disch := omega) only [Option.bind_some, if_true, if_false, eq_self, not_true_eq_false, not_false_eq_true, am_w_id, if_pos, if_neg, fu_self, fu_ne, Int.toNat_natCast, pa_gR_0, pa_l_0, pa_s_0, h1, g0, l0, b0, c2, e9]); rw [B_pa_isOn_40]; (try simp (disch := omega) only [Option.bind_some, if_true, if_false, eq_self, not_true_eq_false, not_false_eq_true, am_w_id, if_pos, if_neg, fu_self, fu_ne, Int.toNat_natCast, h1, g0, l0, b0, c2, e9])
        · left
          have c2' : ¬ t.getD k 0 = B.getD k 0 := fun h => c2 h.symm
          refine ⟨0, ?_, Or.inr ⟨rfl, fun h => c2 (by rw [h])⟩⟩
          (try dsimp only); rw [B_pa_isOn_15]; (try simp (disch := omega) only [Option.bind_some, if_true, if_false, eq_self, not_true_eq_false, not_false_eq_true, am_w_id, if_pos, if_neg, fu_self, fu_ne, Int.toNat_natCast, pa_gI_1, pa_p_1, h1, g0, l0, b0, c2']); rw [B_pa_isOn_23]; (try simp (disch := omega) only [Option.bind_some, if_true, if_false, eq_self, not_true_eq_false, not_false_eq_true, am_w_id, if_pos, if_neg, fu_self, fu_ne, Int.toNat_natCast, pa_gR_0, pa_l_0, pa_s_0, h1, g0, l0, b0, c2']); rw [B_pa_isOn_38]; (try simp (disch := omega) only [Option.bind_some, if_true, if_false, eq_self, not_true_eq_false, not_false_eq_true, am_w_id, if_pos, if_neg, fu_self, fu_ne, Int.toNat_natCast, h1, g0, l0, b0, c2'])
    · have cl' : ¬ (t.length : Int) = (B.length : Int) := by omega
      refine ⟨0, ?_, Or.inr ⟨rfl, fun h => cl (by rw [h])⟩⟩
      (try dsimp only); rw [en_pa_isOn]; (try simp (disch := omega) only [Option.bind_some, if_true, if_false, eq_self, not_true_eq_false, not_false_eq_true, am_w_id, if_pos, if_neg, fu_self, fu_ne, Int.toNat_natCast, g1, h1, cl']); rw [B_pa_isOn_0]; (try simp (disch := omega) only [Option.bind_some, if_true, if_false, eq_self, not_true_eq_false, not_false_eq_true, am_w_id, if_pos, if_neg, fu_self, fu_ne, Int.toNat_natCast, pa_gI_1, pa_p_1, g1, h1, cl']); rw [B_pa_isOn_11]; (try simp (disch := omega) only [Option.bind_some, if_true, if_false, eq_self, not_true_eq_false, not_false_eq_true, am_w_id, if_pos, if_neg, fu_self, fu_ne, Int.toNat_natCast, g1, h1, cl'])
  obtain ⟨x, e, h⟩ := key
  exact ⟨x, am_cI_of e, h⟩
end PA
