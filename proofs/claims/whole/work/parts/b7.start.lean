/-! the law: from its start -/
section ST
variable {h h' : am_H} {A : Nat} {ws bs : List wd} {mo bo : Int}
theorem bkW_nf {b lo hi : Nat} (T : bkW h b) (F : nfr lo hi h h') (hd : b + 3 ≤ lo ∨ hi ≤ b) : bkW h' b := by
  have r : bkW (h.1, h'.2) b := T.fr F.fz hd
  exact r
theorem hrC_nf {lo hi : Nat} (H : hrC h A ws bs mo bo) (F : nfr lo hi h h') (hd : A + 144 ≤ lo) : hrC h' A ws bs mo bo := by
  have B : blw A (A + 144) h h' := fun q z1 z2 z3 => F q (by omega)
  obtain ⟨⟨⟨S2, h2⟩, h3⟩, ⟨S4, h4, k4⟩, ⟨S5, h5, k5⟩, ⟨S6, h6⟩, ⟨S7, h7, k7⟩, ⟨S8, h8⟩, S9, h9⟩ := H
  exact ⟨⟨⟨S2, xH_bl h2 B (by omega) (by show A + 88 + 1 ≤ A + 144; omega)⟩, bkW_nf h3 F (by omega)⟩, ⟨S4, xH_bl h4 B (by omega) (by show A + 92 + 15 ≤ A + 144; omega), k4⟩, ⟨S5, xH_bl h5 B (by omega) (by show A + 107 + 15 ≤ A + 144; omega), k5⟩, ⟨S6, xH_bl h6 B (by omega) (by show A + 122 + 2 ≤ A + 144; omega)⟩, ⟨S7, xH_bl h7 B (by omega) (by show A + 124 + 6 ≤ A + 144; omega), k7⟩, ⟨S8, xH_bl h8 B (by omega) (by show A + 130 + 2 ≤ A + 144; omega)⟩, S9, xH_bl h9 B (by omega) (by show A + 132 + 3 ≤ A + 144; omega)⟩
theorem CR_nf {lo hi : Nat} {n : am_H} {s : Sta} (H : CR n h A s) (F : nfr lo hi h h') (hd : A + 144 ≤ lo) : CR h' h' A s := by
  obtain ⟨_, kp, mo, bo, Lo, Hs, Hr⟩ := H
  have r1 := Lo.fr (lo := lo) (hi := hi) (h' := (h.1, h'.2)) F.fz (Or.inl (by omega))
  have r2 := Hs.fr (lo := lo) (hi := hi) (h' := (h.1, h'.2)) F.fz (Or.inl (by omega))
  exact ⟨am_fr.rf, kp, mo, bo, r1, r2, hrC_nf Hr F hd⟩
end ST
def st0 : Sta := ([], [], [], [], fun _ => none)
theorem ok_st0 : okT st0 := ⟨⟨Nat.zero_le _, fun x hx => by simp [st0] at hx⟩, ok_nil, ok_nil, ⟨Nat.zero_le _, fun p hp => by simp [st0] at hp⟩, fun k v hv => by simp [st0] at hv⟩
theorem ms_st0 : MS S0 st0 := by
  have e : ∀ (n o : Nat), o + 1 ≤ n → ml n (fun _ => 0) o [] := fun n o h => ⟨rfl, h, fun w p hp => by simp at hp⟩
  exact ⟨⟨rfl, Nat.zero_le _, fun x hx => by simp [st0] at hx, fun i hi => by simp [st0] at hi⟩, e _ _ (by decide), e _ _ (by decide), ⟨rfl, fun k p hp => by simp [st0] at hp⟩, fun k hk => ⟨rfl, fun v hv => by simp [st0] at hv⟩⟩
theorem law_all {L : Nat} (xs : Nat → Int32) (hL : L ≤ 3072) : ∃ r, EV 30 N_law_law T_law_law_0 (am_entry [.inr (.inr (some 0))] 4) [] (am_h0 L xs) = some r ∧ r.1 = some (.inl 1) ∧ r.2.1.1 ≤ 600001 ∧ r.2.1.2 ≤ 7302250 := by
  have h1 : (am_h0 L xs).1 = (1, 0) := rfl
  have hp : (am_h0 L xs).1.1 = 1 := rfl
  have h0 : (am_h0 L xs).2 0 = .inl (5, L, .inl (fun j => (xs j).toInt)) := rfl
  generalize am_h0 L xs = h at *
  obtain ⟨p1, p2⟩ := push_at (e := .inr (9, am_df 9)) h1
  obtain ⟨g, c1, e1, g1, b1, o1, C1⟩ := i_nw (A := 1) p1 p2 26
  have n1 := nfr.push (e := .inr (9, am_df 9)) h1
  have hp2 : g.1.1 = 145 := by rw [g1]
  obtain ⟨p3, p4⟩ := push_at (e := .inr (10, am_df 10)) g1
  obtain ⟨g2, e2, g3, n2, K2⟩ := i_md p3 p4 29
  have n3 : nfr 145 180 g g2 := ((nfr.push (e := .inr (10, am_df 10)) g1).wide (by omega) (by omega)).tr n2
  have z0 : g2.2 0 = .inl (5, L, .inl (fun j => (xs j).toInt)) := (n3 0 (by omega)).trans ((o1 0 (by omega)).trans ((n1 0 (by omega)).trans h0))
  have I : lwI g2.1 L (fun j => (xs j).toInt) 1 145 g2 st0 := ⟨rfl, z0, CR_nf C1 n3 (by omega), ok_st0, S0, K2, ms_st0⟩
  obtain ⟨h', ef, nf⟩ := law_go (fun j => am_inI_of _) hL (Nat.le_refl 1) (Nat.le_refl 145) L 0 g2 st0 (by omega) (by omega) I
  refine ⟨(some (.inl 1), h'), ?_, rfl, ?_, ?_⟩
  · refine Eq.trans ?_ ef
    show EV 30 N_law_law T_law_law_0 [.inr (.inr (some 0)), am_nul, am_nul, am_nul] [] h = _
    rw [B_law_law_0, hp, e1, Option.bind_some, hp2, e2, Option.bind_some]
    rfl
  · show h'.1.1 ≤ 600001
    rw [nf, g3]
    show 1 + 144 + 35 ≤ 600001
    decide
  · show h'.1.2 ≤ 7302250
    rw [nf, g3]
    have s1 : am_sz (.inr (9, am_df 9)) = 16 := rfl
    have s2 : am_sz (.inr (10, am_df 10)) = 48 := rfl
    have s3 : szC mdC ≤ 200000 := by decide
    rw [s1] at b1
    rw [s2]
    show c1 + 48 + szC mdC ≤ 7302250
    omega
theorem whole_start {p : Program} {e : Env} {s : State} {m : MethodId} {below : List Frame} {meth : Method} {c : Code} (l : Launch) (hflags : l.flags = flags0) {b L : Nat} {xs : Nat → Int32} (hL : L ≤ 3072) (C0 : lw_At p s m meth c b L xs) :
    W p l e room_1 s m #[Value.ref b] below meth c s.heap [] 0 0 (lw_Z below #[Value.ref b] s) (entryFrame m ([Value.ref b] : List Value).toArray 4) := by
  obtain ⟨r, hr, h1, h2, h3⟩ := law_all xs hL
  obtain ⟨n, hn⟩ := am_ev_iff.mp hr
  exact am_top l hL C0 hn h1 h2 h3
