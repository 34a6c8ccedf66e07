/-! unpack: goesThrough, all ways -/
def rs (ss : List sta) (n s k : Nat) : List wd := ((aOf ss s).drop k).flatMap (fun a => (wy ss n a.2.2.toNat).map (fun w => (a.1 :: w.1, a.2.1 + w.2)))
def rsx (ss : List sta) : Nat → Nat → Nat → List wd
  | 0, _, _ => []
  | n + 1, s, k => rs ss n s k
def upw (path : List Int) (tot : Int) (l : List wd) : List wd := l.map (fun w => (path ++ w.1, tot + w.2))
def own (ss : List sta) (z : Nat) : List wd := if eOf ss z = -2 then [] else [([], eOf ss z)]
theorem wy_own (ss : List sta) (n z : Nat) : wy ss n z = own ss z ++ rsx ss n z 0 := by
  cases n with
  | zero => unfold wy rsx own; rw [List.append_nil]
  | succ n =>
    show wy ss (n + 1) z = own ss z ++ rs ss n z 0
    unfold wy own rs
    rw [List.drop_zero]
theorem rs_s {ss : List sta} {n s k : Nat} {a : arc} (ha : (aOf ss s)[k]? = some a) : rs ss n s k = (wy ss n a.2.2.toNat).map (fun w => (a.1 :: w.1, a.2.1 + w.2)) ++ rs ss n s (k + 1) := by
  obtain ⟨h, e⟩ := List.getElem?_eq_some_iff.mp ha
  unfold rs
  rw [List.drop_eq_getElem_cons h, List.flatMap_cons, e]
theorem upw_map (path : List Int) (tot x o : Int) (l : List wd) : upw path tot (l.map (fun w => (x :: w.1, o + w.2))) = upw (path ++ [x]) (tot + o) l := by
  unfold upw
  rw [List.map_map]
  refine List.map_congr_left (fun w _ => ?_)
  simp [Int.add_assoc]
theorem upw_app (path : List Int) (tot : Int) (l l' : List wd) : upw path tot (l ++ l') = upw path tot l ++ upw path tot l' := by unfold upw; rw [List.map_append]
theorem upw_own (ss : List sta) (path : List Int) (tot : Int) (z : Nat) : upw path tot (own ss z) = if eOf ss z = -2 then [] else [(path, tot + eOf ss z)] := by
  unfold upw own
  split <;> simp
section MO
variable {m : Nat} {g : am_H} {S : Nat → Nat → Int} {u : Int} {ss : List sta}
theorem md_gtPop (dep : Nat) (x2 x3 : Int) (j4 : am_V) (hd : dep ≤ 10) (d : Nat) : EV d N_md_goesThrough T_md_goesThrough_54 [.inr (.inr (some (m))), .inl (((dep + 1 : Nat) : Int)), .inl (x2), .inl (x3), j4] [] (MH m g S) = EV d N_md_goesThrough T_md_goesThrough_66 [.inr (.inr (some (m))), .inl ((dep : Int)), .inl (x2), .inl (x3), j4] [.inl (x2)] (MH m g S) := by
  have e1 : ((dep + 1 : Nat) : Int) + (-1) = (dep : Int) := by omega
  have e2 : -2147483648 ≤ (dep : Int) := by omega
  have e3 : (dep : Int) < 2147483648 := by omega
  have e4 : (0 : Int) ≤ (dep : Int) := by omega
  rw [B_md_goesThrough_54, e1, am_w_id e2 e3, if_pos e4]
theorem md_visit (hm : mach ss) (hl : ss.length ≤ 1001) (hf : (fla ss).length ≤ 133) (h11 : ∀ s, s < ss.length → rc ss 11 s = false) (d : Nat) : ∀ (n dep s r k : Nat) (j3 j4 : am_V) (path : List Int) (tot : Int) (L : List wd) (S : Nat → Nat → Int), dep + n = 10 → mcR S u ss → s < ss.length → rc ss dep s = true → k + r = (aOf ss s).length → S 45 dep = (s : Int) → S 46 dep = (k : Int) → path.length = dep → (∀ i, i < dep → S 7 i = path.getD i 0) → wl path → (0 ≤ tot ∧ tot ≤ 1000000 * (dep + 1)) → ml 2402 (S 12) 0 L → (∀ p ∈ L, wk p) → L.length + (rsx ss n s k).length ≤ 100 → so (L ++ upw path tot (rsx ss n s k)) →
    (∃ S', EV (d + 4) N_md_goesThrough T_md_goesThrough_28 [.inr (.inr (some (m))), .inl ((dep : Int)), .inl (tot), j3, j4] [] (MH m g S) = some (some (.inl 0), MH m g S') ∧ fd [7, 8, 12, 45, 46] S S' ∧ ∃ w ∈ rsx ss n s k, 999999 < tot + w.2) ∨
    ((∀ w ∈ rsx ss n s k, tot + w.2 ≤ 999999) ∧ ∃ j3' j4' S', EV (d + 4) N_md_goesThrough T_md_goesThrough_28 [.inr (.inr (some (m))), .inl ((dep : Int)), .inl (tot), j3, j4] [] (MH m g S) = EV (d + 4) N_md_goesThrough T_md_goesThrough_28 [.inr (.inr (some (m))), .inl ((dep : Int)), .inl (tot), j3', j4'] [] (MH m g S') ∧ fd [7, 8, 12, 45, 46] S S' ∧ wayR S S' dep ∧ S' 45 dep = (s : Int) ∧ S' 46 dep = ((aOf ss s).length : Int) ∧ ml 2402 (S' 12) 0 (L ++ upw path tot (rsx ss n s k)) ∧ ∀ p ∈ L ++ upw path tot (rsx ss n s k), wk p) := by
  intro n
  induction n with
  | zero =>
    intro dep s r k j3 j4 path tot L S hdn M hs hr hk h45 h46 hp hp7 hwl ht hL hLk hL2 hso
    obtain rfl : dep = 10 := by omega
    have he : aOf ss s = [] := by
      cases e : aOf ss s with
      | nil => rfl
      | cons a l =>
        have hok := (of_ok hm hs).2.1 a (by rw [e]; exact List.mem_cons_self)
        have hrz : rc ss 11 a.2.2.toNat = true := rc_s.mpr ⟨s, hs, hr, a, by rw [e]; exact List.mem_cons_self, by omega⟩
        rw [h11 _ (by omega)] at hrz
        exact absurd hrz (by decide)
    rw [he, List.length_nil] at hk
    have e0 : L ++ upw path tot (rsx ss 0 s k) = L := by unfold rsx upw; simp
    right
    refine ⟨fun w hw => by simp [rsx] at hw, j3, j4, S, rfl, fd.rf, wayR.rf, h45, ?_, by rw [e0]; exact hL, by rw [e0]; exact hLk⟩
    rw [h46, he, List.length_nil]
    omega
  | succ n ihn =>
    intro dep s r
    induction r with
    | zero =>
      intro k j3 j4 path tot L S hdn M hs hr hk h45 h46 hp hp7 hwl ht hL hLk hL2 hso
      have e1 : rsx ss (n + 1) s k = [] := by
        show rs ss n s k = []
        unfold rs
        rw [List.drop_eq_nil_of_le (by omega)]
        rfl
      have e0 : L ++ upw path tot (rsx ss (n + 1) s k) = L := by rw [e1]; unfold upw; simp
      right
      refine ⟨fun w hw => by rw [e1] at hw; simp at hw, j3, j4, S, rfl, fd.rf, wayR.rf, h45, ?_, by rw [e0]; exact hL, by rw [e0]; exact hLk⟩
      rw [h46]
      omega
    | succ r ihr =>
      intro k j3 j4 path tot L S hdn M hs hr hk h45 h46 hp hp7 hwl ht hL hLk hL2 hso
      obtain ⟨a, ha⟩ : ∃ a, (aOf ss s)[k]? = some a := ⟨_, List.getElem?_eq_getElem (by omega)⟩
      have hok := (of_ok hm hs).2.1 a (List.mem_of_getElem? ha)
      obtain ⟨z, hz⟩ : ∃ z : Nat, a.2.2 = (z : Int) := ⟨a.2.2.toNat, by omega⟩
      have hzt : a.2.2.toNat = z := by omega
      have hzl : z < ss.length := by omega
      have hrz : rc ss (dep + 1) z = true := rc_s.mpr ⟨s, hs, hr, a, List.mem_of_getElem? ha, hz⟩
      have hrs := rs_s (n := n) ha
      rw [hzt, wy_own] at hrs
      have hX : rsx ss (n + 1) s k = rs ss n s k := rfl
      have hX2 : rsx ss (n + 1) s (k + 1) = rs ss n s (k + 1) := rfl
      have hup : upw path tot (rsx ss (n + 1) s k) = (if eOf ss z = -2 then [] else [(path ++ [a.1], tot + a.2.1 + eOf ss z)]) ++ (upw (path ++ [a.1]) (tot + a.2.1) (rsx ss n z 0) ++ upw path tot (rsx ss (n + 1) s (k + 1))) := by
        rw [hX, hX2, hrs, upw_app, upw_map, upw_app, upw_own, List.append_assoc]
      have hlen : (rsx ss (n + 1) s k).length = (own ss z).length + ((rsx ss n z 0).length + (rsx ss (n + 1) s (k + 1)).length) := by
        rw [hX, hX2, hrs, List.length_append, List.length_map, List.length_append, Nat.add_assoc]
      have hownl : (own ss z).length = (if eOf ss z = -2 then [] else [(path ++ [a.1], tot + a.2.1 + eOf ss z)] : List wd).length := by unfold own; split <;> rfl
      have hin1 : ∀ w ∈ own ss z, (a.1 :: w.1, a.2.1 + w.2) ∈ rsx ss (n + 1) s k := fun w hw => by
        rw [hX, hrs]
        exact List.mem_append_left _ (List.mem_map.mpr ⟨w, List.mem_append_left _ hw, rfl⟩)
      have hin2 : ∀ w ∈ rsx ss n z 0, (a.1 :: w.1, a.2.1 + w.2) ∈ rsx ss (n + 1) s k := fun w hw => by
        rw [hX, hrs]
        exact List.mem_append_left _ (List.mem_map.mpr ⟨w, List.mem_append_right _ hw, rfl⟩)
      rw [hup] at hso
      generalize hOw : (if eOf ss z = -2 then [] else [(path ++ [a.1], tot + a.2.1 + eOf ss z)] : List wd) = Ow at *
      have hso1 : so (L ++ Ow) := by rw [← List.append_assoc] at hso; exact (List.pairwise_append.mp hso).1
      have hgo : eOf ss z ≠ -2 → Ow = [(path ++ [a.1], tot + a.2.1 + eOf ss z)] := fun h => by rw [← hOw, if_neg h]
      have hcap : eOf ss z ≠ -2 → L.length < 100 := fun h => by
        have : Ow.length = 1 := by rw [hgo h]; rfl
        omega
      have hwl2 : wl (path ++ [a.1]) := by
        intro x hx
        rcases List.mem_append.mp hx with h | h
        · exact hwl x h
        · rw [List.mem_singleton.mp h]; omega
      have hpl : (path ++ [a.1]).length = dep + 1 := by simp [hp]
      rcases md_gtStep (m := m) (g := g) hm M hl hf (path := path) (L := L) (by omega) hs ha hz h45 h46 hp hp7 hwl ht hL hLk hcap (fun h => by rw [← hgo h]; exact hso1) j3 j4 d with ⟨c, c2, S', e, F⟩ | ⟨c, j3', j4', S1, e1, F1, W1, s7, s45, s46, t45, t46, hL1⟩
      · left
        refine ⟨S', e, F, (a.1 :: [], a.2.1 + eOf ss z), hin1 ([], eOf ss z) (by unfold own; rw [if_neg c]; exact List.mem_singleton.mpr rfl), by dsimp only; omega⟩
      · rw [hOw] at hL1
        have hOk : ∀ p ∈ L ++ Ow, wk p := by
          intro p hp'
          rcases List.mem_append.mp hp' with h | h
          · exact hLk p h
          · rw [← hOw] at h
            split at h
            · simp at h
            · next hc =>
              have h1 := c hc
              have h2 := (of_ok hm hzl).1.resolve_left hc
              rw [List.mem_singleton.mp h]
              exact ⟨hwl2, by simp, by dsimp only; omega, by dsimp only; omega, by dsimp only; omega⟩
        have p7' : ∀ i, i < dep + 1 → S1 7 i = (path ++ [a.1]).getD i 0 := by
          intro i hi
          by_cases ci : i = dep
          · rw [ci, s7, ← hp]; simp
          · rw [W1.1 i (by omega), hp7 i (by omega), List.getD_eq_getElem?_getD, List.getD_eq_getElem?_getD, List.getElem?_append_left (by omega)]
        have hsoA : so ((L ++ Ow) ++ upw (path ++ [a.1]) (tot + a.2.1) (rsx ss n z 0)) := by
          rw [← List.append_assoc, ← List.append_assoc] at hso
          exact (List.pairwise_append.mp hso).1
        rcases ihn (dep + 1) z (aOf ss z).length 0 j3' j4' (path ++ [a.1]) (tot + a.2.1) (L ++ Ow) S1 (by omega) (M.fr F1 (by decide)) hzl hrz (by omega) t45 t46 hpl p7' hwl2 (by push_cast; omega) hL1 hOk (by rw [List.length_append]; omega) hsoA with ⟨S', e2, F2, w, w1, w2⟩ | ⟨b, k3, k4, S2, e2, F2, W2, v45, v46, hLA, hkA⟩
        · left
          exact ⟨S', e1.trans e2, F1.tr F2, _, hin2 w w1, by dsimp only; omega⟩
        · have F12 := F1.tr F2
          have M2 := M.fr F12 (by decide)
          have w45 : S2 45 dep = (s : Int) := (W2.2 dep (by omega)).1.trans s45
          have w46 : S2 46 dep = ((k + 1 : Nat) : Int) := (W2.2 dep (by omega)).2.trans s46
          have W12 : wayR S S2 dep := W1.tr (W2.le (by omega))
          have z38 : S2 38 z = ((aOf ss z).length : Int) := (M2.2.2.2 z _ (of_get hzl)).2.1
          have s37 : S2 37 s = ((fla (ss.take s)).length : Int) := (M2.2.2.2 s _ (of_get hs)).1
          obtain ⟨l1, l2⟩ := fla_len ss hs
          have s41 : S2 41 ((fla (ss.take s)).length + k) = a.2.1 := (M2.2.2.1 _ _ (l2 k a ha)).2.1
          generalize (fla (ss.take s)).length = p at *
          have q1 : ¬ ((dep + 1 : Nat) : Int) < 0 := by omega
          have q2 : (p : Int) + ((k + 1 : Nat) : Int) - 1 = ((p + k : Nat) : Int) := by omega
          have q2' : (p : Int) + ((k + 1 : Nat) : Int) = ((p + k + 1 : Nat) : Int) := by omega
          have q2'' : ((p + k + 1 : Nat) : Int) - 1 = ((p + k : Nat) : Int) := by omega
          have q3 : tot + a.2.1 - a.2.1 = tot := by omega
          have q4 : ¬ ¬ ((aOf ss z).length : Int) = ((aOf ss z).length : Int) := fun h => h rfl
          have st : EV (d + 4) N_md_goesThrough T_md_goesThrough_28 [.inr (.inr (some (m))), .inl (((dep + 1 : Nat) : Int)), .inl (tot + a.2.1), k3, k4] [] (MH m g S2) = EV (d + 4) N_md_goesThrough T_md_goesThrough_28 [.inr (.inr (some (m))), .inl ((dep : Int)), .inl (tot), .inl ((z : Int)), k4] [] (MH m g S2) := by
            (try dsimp only); rw [B_md_goesThrough_28]; (try simp (disch := omega) only [Option.bind_some, if_true, if_false, eq_self, not_true_eq_false, not_false_eq_true, am_w_id, if_pos, if_neg, fu_self, fu_ne, Int.toNat_natCast, q1, v45, v46, z38, q4]); rw [B_md_goesThrough_32]; (try simp (disch := omega) only [Option.bind_some, if_true, if_false, eq_self, not_true_eq_false, not_false_eq_true, am_w_id, if_pos, if_neg, fu_self, fu_ne, Int.toNat_natCast, m_gR_45, m_l_45, m_s_45, m_gR_46, m_l_46, m_s_46, m_gR_38, m_l_38, m_s_38, q1, v45, v46, z38, q4])
            rw [md_gtPop dep _ _ _ (by omega)]
            (try dsimp only); rw [B_md_goesThrough_66]; (try simp (disch := omega) only [Option.bind_some, if_true, if_false, eq_self, not_true_eq_false, not_false_eq_true, am_w_id, if_pos, if_neg, fu_self, fu_ne, Int.toNat_natCast, m_gR_41, m_l_41, m_s_41, m_gR_37, m_l_37, m_s_37, m_gR_45, m_l_45, m_s_45, m_gR_46, m_l_46, m_s_46, w45, w46, s37, q2', q2'', s41, q3]); rw [B_md_goesThrough_91]; (try simp (disch := omega) only [Option.bind_some, if_true, if_false, eq_self, not_true_eq_false, not_false_eq_true, am_w_id, if_pos, if_neg, fu_self, fu_ne, Int.toNat_natCast, w45, w46, s37, q2', q2'', s41, q3])
          have hsoB : so ((L ++ Ow ++ upw (path ++ [a.1]) (tot + a.2.1) (rsx ss n z 0)) ++ upw path tot (rsx ss (n + 1) s (k + 1))) := by
            rw [List.append_assoc, List.append_assoc]
            exact hso
          have hll : (upw (path ++ [a.1]) (tot + a.2.1) (rsx ss n z 0)).length = (rsx ss n z 0).length := by unfold upw; rw [List.length_map]
          have hall : ∀ w ∈ rsx ss (n + 1) s k, (∃ v ∈ own ss z, w = (a.1 :: v.1, a.2.1 + v.2)) ∨ (∃ v ∈ rsx ss n z 0, w = (a.1 :: v.1, a.2.1 + v.2)) ∨ w ∈ rsx ss (n + 1) s (k + 1) := by
            intro w hw
            rw [hX, hrs] at hw
            rcases List.mem_append.mp hw with h | h
            · obtain ⟨v, h1, h2⟩ := List.mem_map.mp h
              rcases List.mem_append.mp h1 with h3 | h3
              · exact Or.inl ⟨v, h3, h2.symm⟩
              · exact Or.inr (Or.inl ⟨v, h3, h2.symm⟩)
            · exact Or.inr (Or.inr h)
          have hin3 : ∀ w ∈ rsx ss (n + 1) s (k + 1), w ∈ rsx ss (n + 1) s k := fun w hw => by
            rw [hX, hrs]
            exact List.mem_append_right _ hw
          have heq : L ++ upw path tot (rsx ss (n + 1) s k) = (L ++ Ow ++ upw (path ++ [a.1]) (tot + a.2.1) (rsx ss n z 0)) ++ upw path tot (rsx ss (n + 1) s (k + 1)) := by
            rw [hup, List.append_assoc, List.append_assoc]
          rcases ihr (k + 1) (.inl ((z : Int))) k4 path tot (L ++ Ow ++ upw (path ++ [a.1]) (tot + a.2.1) (rsx ss n z 0)) S2 hdn M2 hs hr (by omega) w45 w46 hp (fun i hi => (W12.1 i hi).trans (hp7 i hi)) hwl ht hLA hkA (by rw [List.length_append, List.length_append, hll]; omega) hsoB with ⟨S', e3, F3, w, w1, w2⟩ | ⟨b3, k5, k6, S3, e3, F3, W3, x45, x46, hLB, hkB⟩
          · left
            exact ⟨S', e1.trans (e2.trans (st.trans e3)), F12.tr F3, w, hin3 w w1, w2⟩
          · right
            rw [heq]
            refine ⟨fun w hw => ?_, k5, k6, S3, e1.trans (e2.trans (st.trans e3)), F12.tr F3, W12.tr W3, x45, x46, hLB, hkB⟩
            rcases hall w hw with ⟨v, h1, h2⟩ | ⟨v, h1, h2⟩ | h
            · rw [h2]
              unfold own at h1
              split at h1
              · simp at h1
              · next hc =>
                have := c hc
                rw [List.mem_singleton.mp h1]
                dsimp only
                omega
            · have := b v h1
              rw [h2]
              dsimp only
              omega
            · exact b3 w h
end MO
