/-! what each instruction's operands must be held against: the bytes, the tables' words; decided for the whole code -/
def am_tbs (k : Nat) : List Jvm.Cond := match k with
  | 1 => tables_1_1
  | 2 => tables_1_2
  | 3 => tables_1_3
  | 4 => tables_1_4
  | 5 => tables_1_5
  | 6 => tables_1_6
  | 7 => tables_1_7
  | 11 => k2_sels lw_privs_1
  | 12 => k2_sels lw_privs_2
  | 13 => k2_sels lw_privs_3
  | 14 => k2_sels lw_privs_4
  | 15 => k2_sels lw_privs_5
  | 16 => k2_sels lw_privs_6
  | 17 => k2_sels lw_privs_7
  | 18 => k2_sels lw_privs_8
  | 19 => k2_sels lw_privs_9
  | 20 => k2_sels lw_privs_10
  | _ => []
def am_wa (w : Nat) : Option Jvm.Cond := (am_tbs (w / 1000))[w % 1000]?
theorem am_tbs_mem : ∀ (k : Nat) (c : Jvm.Cond), c ∈ am_tbs k → c ∈ lw_tbl
  | 0, c, h => by simp [am_tbs] at h
  | 1, c, h => List.mem_append_right _ (List.mem_append_left _ (h))
  | 2, c, h => List.mem_append_right _ (List.mem_append_right _ (List.mem_append_left _ (h)))
  | 3, c, h => List.mem_append_right _ (List.mem_append_right _ (List.mem_append_right _ (List.mem_append_left _ (h))))
  | 4, c, h => List.mem_append_right _ (List.mem_append_right _ (List.mem_append_right _ (List.mem_append_right _ (List.mem_append_left _ (h)))))
  | 5, c, h => List.mem_append_right _ (List.mem_append_right _ (List.mem_append_right _ (List.mem_append_right _ (List.mem_append_right _ (List.mem_append_left _ (h))))))
  | 6, c, h => List.mem_append_right _ (List.mem_append_right _ (List.mem_append_right _ (List.mem_append_right _ (List.mem_append_right _ (List.mem_append_right _ (List.mem_append_left _ (h)))))))
  | 7, c, h => List.mem_append_right _ (List.mem_append_right _ (List.mem_append_right _ (List.mem_append_right _ (List.mem_append_right _ (List.mem_append_right _ (List.mem_append_right _ (h)))))))
  | 8, c, h => by simp [am_tbs] at h
  | 9, c, h => by simp [am_tbs] at h
  | 10, c, h => by simp [am_tbs] at h
  | 11, c, h => List.mem_append_left _ (by
      obtain ⟨q, hq, rfl⟩ := List.mem_map.mp h
      exact List.mem_map.mpr ⟨q, List.mem_append_left _ (hq), rfl⟩)
  | 12, c, h => List.mem_append_left _ (by
      obtain ⟨q, hq, rfl⟩ := List.mem_map.mp h
      exact List.mem_map.mpr ⟨q, List.mem_append_right _ (List.mem_append_left _ (hq)), rfl⟩)
  | 13, c, h => List.mem_append_left _ (by
      obtain ⟨q, hq, rfl⟩ := List.mem_map.mp h
      exact List.mem_map.mpr ⟨q, List.mem_append_right _ (List.mem_append_right _ (List.mem_append_left _ (hq))), rfl⟩)
  | 14, c, h => List.mem_append_left _ (by
      obtain ⟨q, hq, rfl⟩ := List.mem_map.mp h
      exact List.mem_map.mpr ⟨q, List.mem_append_right _ (List.mem_append_right _ (List.mem_append_right _ (List.mem_append_left _ (hq)))), rfl⟩)
  | 15, c, h => List.mem_append_left _ (by
      obtain ⟨q, hq, rfl⟩ := List.mem_map.mp h
      exact List.mem_map.mpr ⟨q, List.mem_append_right _ (List.mem_append_right _ (List.mem_append_right _ (List.mem_append_right _ (List.mem_append_left _ (hq))))), rfl⟩)
  | 16, c, h => List.mem_append_left _ (by
      obtain ⟨q, hq, rfl⟩ := List.mem_map.mp h
      exact List.mem_map.mpr ⟨q, List.mem_append_right _ (List.mem_append_right _ (List.mem_append_right _ (List.mem_append_right _ (List.mem_append_right _ (List.mem_append_left _ (hq)))))), rfl⟩)
  | 17, c, h => List.mem_append_left _ (by
      obtain ⟨q, hq, rfl⟩ := List.mem_map.mp h
      exact List.mem_map.mpr ⟨q, List.mem_append_right _ (List.mem_append_right _ (List.mem_append_right _ (List.mem_append_right _ (List.mem_append_right _ (List.mem_append_right _ (List.mem_append_left _ (hq))))))), rfl⟩)
  | 18, c, h => List.mem_append_left _ (by
      obtain ⟨q, hq, rfl⟩ := List.mem_map.mp h
      exact List.mem_map.mpr ⟨q, List.mem_append_right _ (List.mem_append_right _ (List.mem_append_right _ (List.mem_append_right _ (List.mem_append_right _ (List.mem_append_right _ (List.mem_append_right _ (List.mem_append_left _ (hq)))))))), rfl⟩)
  | 19, c, h => List.mem_append_left _ (by
      obtain ⟨q, hq, rfl⟩ := List.mem_map.mp h
      exact List.mem_map.mpr ⟨q, List.mem_append_right _ (List.mem_append_right _ (List.mem_append_right _ (List.mem_append_right _ (List.mem_append_right _ (List.mem_append_right _ (List.mem_append_right _ (List.mem_append_right _ (List.mem_append_left _ (hq))))))))), rfl⟩)
  | 20, c, h => List.mem_append_left _ (by
      obtain ⟨q, hq, rfl⟩ := List.mem_map.mp h
      exact List.mem_map.mpr ⟨q, List.mem_append_right _ (List.mem_append_right _ (List.mem_append_right _ (List.mem_append_right _ (List.mem_append_right _ (List.mem_append_right _ (List.mem_append_right _ (List.mem_append_right _ (List.mem_append_right _ (hq))))))))), rfl⟩)
  | _ + 21, c, h => by simp [am_tbs] at h
theorem am_wa_mem {w : Nat} {c : Jvm.Cond} (h : am_wa w = some c) : c ∈ lw_tbl := am_tbs_mem _ _ (List.mem_of_getElem? h)
/-- the words that a method may hand on to the methods that it calls -/
def am_nw (w : Jvm.Cond) : Bool := match w with
  | .fieldLinkNest _ _ _ _ _ _ => true
  | .methodLinkNest _ _ _ _ => true
  | _ => false
def am_ao (w : Jvm.Cond) : Bool := match w with
  | .arrayOver ty => decide (ty = .object "NumberWords$Book")
  | _ => false
def am_tg (w : Jvm.Cond) : Bool := goodWord w || am_nw w || am_ao w
def am_tb : List Jvm.Cond := lw_tbl.filter am_tg
def am_wd (i : Nat) (w : Jvm.Cond) : Bool := decide (am_wa i = some w) && am_tg w
theorem am_wd_mem {i : Nat} {w : Jvm.Cond} (h : am_wd i w = true) : w ∈ am_tb := by
  unfold am_wd at h
  rw [Bool.and_eq_true] at h
  exact List.mem_filter.mpr ⟨am_wa_mem (of_decide_eq_true h.1), h.2⟩
def am_Nf (ci : Nat) : Nat := (am_Fs ci).length
def am_fdN (i : Nat) (own : String) (idx : Nat) (ref name desc : String) : Bool := match am_wa i with
  | some (.fieldLinkNest o x r n d _) => o == own && x == idx && r == ref && n == name && d == desc
  | _ => false
theorem am_fdN_mem {i idx : Nat} {own ref name desc : String} (h : am_fdN i own idx ref name desc = true) : ∃ host, Jvm.Cond.fieldLinkNest own idx ref name desc host ∈ am_tb := by
  unfold am_fdN at h
  split at h
  next o x r n d host hw =>
    simp only [Bool.and_eq_true, beq_iff_eq] at h
    obtain ⟨⟨⟨⟨rfl, rfl⟩, rfl⟩, rfl⟩, rfl⟩ := h
    exact ⟨host, List.mem_filter.mpr ⟨am_wa_mem hw, by simp [am_tg, am_nw]⟩⟩
  next => cases h
def am_mtN (i : Nat) (own : String) (idx : Nat) (y : MethodName) : Bool := match am_wa i with
  | some (.methodLinkNest o x z _) => o == own && x == idx && decide (z = y)
  | _ => false
theorem am_mtN_mem {i idx : Nat} {own : String} {y : MethodName} (h : am_mtN i own idx y = true) : ∃ host, Jvm.Cond.methodLinkNest own idx y host ∈ am_tb := by
  unfold am_mtN at h
  split at h
  next o x z host hw =>
    simp only [Bool.and_eq_true, beq_iff_eq, decide_eq_true_eq] at h
    obtain ⟨⟨rfl, rfl⟩, rfl⟩ := h
    exact ⟨host, List.mem_filter.mpr ⟨am_wa_mem hw, by simp [am_tg, am_nw]⟩⟩
  next => cases h
def am_iI (z : Int) : Bool := decide (-2147483648 ≤ z) && decide (z < 2147483648)
def am_iL (z : Int) : Bool := decide (-9223372036854775808 ≤ z) && decide (z < 9223372036854775808)
/-- a field's type, as an instruction that puts into it says it: 0 int, 1 boolean, 2 a reference -/
def am_ftk (desc : String) (t : Nat) : Bool := match parseFieldDescriptor desc, t with
  | some .int, 0 => true
  | some .boolean, 1 => true
  | some (.object _), 2 => true
  | some (.array _), 2 => true
  | _, _ => false
def am_okF (own : String) (idx len : Nat) (os : List Nat) : Bool := match os with
  | [ci, k, t, w, nest] => len == 3 && decide (ci < 11) && decide (k < am_Nf ci) && am_ftk (am_T ci k).2.2.1 t && (if nest = 0 then am_wd w (.fieldLink own idx (am_T ci k).1 (am_T ci k).2.1 (am_T ci k).2.2.1) else am_fdN w own idx (am_T ci k).1 (am_T ci k).2.1 (am_T ci k).2.2.1)
  | _ => false
/-- a field that is final is put by its class's own constructor alone -/
def am_okP (own mname : String) (os : List Nat) : Bool := match os with
  | [ci, k, _, _, nest] => !(am_T ci k).2.2.2 || (mname == "<init>" && (am_T ci k).1 == own && nest == 0)
  | _ => false
def am_rtk (r : Option FieldType) (t : Nat) : Bool := match r, t with
  | none, 0 => true
  | some .int, 1 => true
  | some .boolean, 1 => true
  | some .long, 2 => true
  | some (.object _), 3 => true
  | some (.array _), 3 => true
  | _, _ => false
/-- what kind of call: 0 virtual, 2 static, 4 a constructor; one more: a nest mate's -/
def am_okC (own : String) (kind idx len : Nat) (os : List Nat) : Bool := match os with
  | [0, y, n, t, rc, vk, wl, wi, ws, wini, wc] => len == 3 && decide (y < 245) && am_rtk (am_mi y).2.2.2 t && decide ((am_mi y).1.cls ≠ "java/lang/invoke/MethodHandle" ∧ (am_mi y).1.cls ≠ "java/lang/invoke/VarHandle") &&
      (match parseMethodDescriptor (am_mi y).1.desc with
        | some sg => if kind = 2 then decide (sg.parameters.length = n) else decide (sg.parameters.length + 1 = n)
        | none => false) &&
      am_wd wc (.code (am_mi y).1 (am_mi y).2.1 (am_mi y).2.2.1 (am_mi y).2.2.2) && am_wd wini (.initialized (am_mi y).1.cls) && decide (kind = vk ∨ kind + 1 = vk) &&
      (if kind = vk then am_wd wl (.methodLink own idx (am_mi y).1) else am_mtN wl own idx (am_mi y).1) &&
      (if kind = 2 then am_wd wi (.static (am_mi y).1) && rc == 0 else am_wd wi (.instanceMethod (am_mi y).1)) &&
      (if kind = 0 then am_wd ws (.selects (am_mi y).1.cls (am_mi y).1 (am_mi y).1) && decide (1 ≤ rc ∧ rc < 12) && am_Cn (rc - 1) == (am_mi y).1.cls else true) &&
      (if kind = 4 then (am_mi y).1.name == "<init>" && decide ((am_mi y).2.2.2 = none) && rc == 100 else true)
  | [1, wl, wi, wc] => len == 3 && kind == 4 && am_wd wl (.methodLink own idx objectInit) && am_wd wi (.instanceMethod objectInit) && am_wd wc (.code objectInit ⟨#[0xb1]⟩ 1 none)
  | [2, wl, ws, wini, wc] => len == 3 && kind == 2 && am_wd wl (.methodLink own idx Lib.Math.max.name) && am_wd ws (.static Lib.Math.max.name) && am_wd wini (.initialized "java/lang/Math") && am_wd wc (.code Lib.Math.max.name Lib.Math.max.code 2 (some .int))
  | [3, wl, ws, wini, wc] => len == 3 && kind == 2 && am_wd wl (.methodLink own idx Lib.Math.min.name) && am_wd ws (.static Lib.Math.min.name) && am_wd wini (.initialized "java/lang/Math") && am_wd wc (.code Lib.Math.min.name Lib.Math.min.code 2 (some .int))
  | [4, wl, ws, wini, wc] => len == 3 && kind == 2 && am_wd wl (.methodLink own idx Lib.MathLoose.min_long.x) && am_wd ws (.static Lib.MathLoose.min_long.x) && am_wd wini (.initialized "java/lang/Math") && am_wd wc (.code Lib.MathLoose.min_long.x Lib.MathLoose.min_long.code 4 (some .long))
  | [5, wl, wn, ws, wini] => len == 3 && kind == 2 && am_wd wl (.methodLink own idx arraycopyName) && am_wd wn (.native arraycopyName) && am_wd ws (.static arraycopyName) && am_wd wini (.initialized "java/lang/System")
  | _ => false
def am_aty (t : Nat) : FieldType := match t with
  | 0 => .int
  | 1 => .long
  | 2 => .byte
  | 3 => .boolean
  | _ => .object "NumberWords$Book"
def am_okL (own mname : String) (e : am_I) : Bool := match e with
  | (pc, i, len, os, z) => match i with
    | .iload _ => len == 2
    | .lload _ => len == 2
    | .aload _ => len == 2
    | .istore _ => len == 2
    | .lstore _ => len == 2
    | .astore _ => len == 2
    | .iload_n _ => len == 1
    | .lload_n _ => len == 1
    | .aload_n _ => len == 1
    | .istore_n _ => len == 1
    | .lstore_n _ => len == 1
    | .astore_n _ => len == 1
    | .iinc _ _ => len == 3
    | .iconst n => len == 1 && decide (Int32.ofInt n = Int32.ofInt z) && am_iI z
    | .bipush n => len == 2 && decide ((Int8.ofInt n).toInt32 = Int32.ofInt z) && am_iI z
    | .sipush n => len == 3 && decide ((Int16.ofInt n).toInt32 = Int32.ofInt z) && am_iI z
    | .ldc idx => (match os with
      | [w] => len == 2 && am_wd w (.constant own idx (Int32.ofInt z)) && am_iI z
      | _ => false)
    | .ldc_w idx => (match os with
      | [w] => len == 3 && am_wd w (.constant own idx (Int32.ofInt z)) && am_iI z
      | _ => false)
    | .lconst n => len == 1 && decide (Int64.ofNat (n : Nat) = Int64.ofInt z) && am_iL z
    | .ldc2_w idx => (match os with
      | [w] => len == 3 && am_wd w (.constantLong own idx (Int64.ofInt z)) && am_iL z
      | _ => false)
    | .iadd => len == 1
    | .isub => len == 1
    | .imul => len == 1
    | .iand => len == 1
    | .ior => len == 1
    | .ishl => len == 1
    | .ishr => len == 1
    | .iushr => len == 1
    | .idiv => len == 1
    | .irem => len == 1
    | .ineg => len == 1
    | .i2l => len == 1
    | .i2b => len == 1
    | .l2i => len == 1
    | .ladd => len == 1
    | .lsub => len == 1
    | .lmul => len == 1
    | .lor => len == 1
    | .lcmp => len == 1
    | .lshl => len == 1
    | .lshr => len == 1
    | .dup => len == 1
    | .pop => len == 1
    | .dup2 => len == 1
    | .iaload => len == 1
    | .baload => len == 1
    | .laload => len == 1
    | .aaload => len == 1
    | .iastore => len == 1
    | .bastore => len == 1
    | .lastore => len == 1
    | .aastore => len == 1
    | .arraylength => len == 1
    | .ireturn => len == 1
    | .lreturn => len == 1
    | .areturn => len == 1
    | .return_ => len == 1
    | .if_icmp _ off => len == 3 && decide (0 ≤ (pc : Int) + off)
    | .ifCond _ off => len == 3 && decide (0 ≤ (pc : Int) + off)
    | .goto off => len == 3 && decide (0 ≤ (pc : Int) + off)
    | .tableswitch df _ _ offs => decide (0 ≤ (pc : Int) + df) && offs.all (fun o => decide (0 ≤ (pc : Int) + o))
    | .getfield idx => am_okF own idx len os
    | .putfield idx => am_okF own idx len os && am_okP own mname os
    | .newarray at_ => (match os with
      | [t, w] => len == 2 && decide (t < 4) && decide (newarray.typeOf at_ = am_aty t) && am_wd w (.arrayClass (newarray.typeOf at_))
      | _ => false)
    | .anewarray idx => (match os with
      | [w, w2] => len == 3 && am_wd w (.classLink own idx "NumberWords$Book") && am_wd w2 (.arrayOver (.object "NumberWords$Book"))
      | _ => false)
    | .new idx => (match os with
      | [ci, w1, w2, w3] => len == 3 && decide (ci < 11) && am_wd w1 (.classLink own idx (am_Cn ci)) && am_wd w2 (.instantiable (am_Cn ci) (am_Nf ci)) && am_wd w3 (.initialized (am_Cn ci))
      | _ => false)
    | .invokevirtual idx => am_okC own 0 idx len os
    | .invokestatic idx => am_okC own 2 idx len os
    | .invokespecial idx => am_okC own 4 idx len os
    | _ => false
/-- what a method's end answers is what it says that it answers -/
def am_rok (r : Option FieldType) (i : Instr) (z : Int) : Bool := match i with
  | .ireturn => am_rtk r 1 && (decide (r ≠ some .boolean) || decide (z ≠ 0))
  | .lreturn => am_rtk r 2
  | .areturn => am_rtk r 3
  | .return_ => am_rtk r 0
  | _ => true
def am_uncond (i : Instr) : Bool := match i with
  | .goto _ => true
  | .tableswitch _ _ _ _ => true
  | .ireturn => true
  | .lreturn => true
  | .areturn => true
  | .return_ => true
  | _ => false
def am_bad (i : Instr) : Bool := match i with
  | .new _ => true
  | .ldc _ => true
  | .athrow => true
  | _ => false
/-- an instruction of the JDK's throwing branches has no operands: the small machine stops there -/
def am_stop (e : am_I) : Bool := am_bad e.2.1 && e.2.2.2.1.isEmpty
def am_ok1 (M : Nat) (e : am_I) (es : List am_I) : Bool :=
  decide (decode (am_mi M).2.1 e.1 = .ok (e.2.1, e.2.2.1)) && am_okL (am_mi M).1.cls (am_mi M).1.name e && am_rok (am_mi M).2.2.2 e.2.1 e.2.2.2.2 && (am_uncond e.2.1 || (match es with
    | [] => false
    | e2 :: _ => e2.1 == e.1 + e.2.2.1))
def am_chk (M : Nat) : List am_I → Bool
  | [] => true
  | e :: es => (am_stop e || am_ok1 M e es) && am_chk M es
/-- the first n of them alone -/
def am_chn (M : Nat) : Nat → List am_I → Bool
  | 0, _ => true
  | _ + 1, [] => true
  | n + 1, e :: es => (am_stop e || am_ok1 M e es) && am_chn M n es
theorem am_chk_app (M : Nat) : ∀ (n : Nat) (es : List am_I), am_chn M n es = true → am_chk M (es.drop n) = true → am_chk M es = true
  | 0, es, _, h => by simpa using h
  | n + 1, [], _, _ => rfl
  | n + 1, e :: es, h1, h2 => by
    simp only [am_chn, Bool.and_eq_true] at h1
    simp only [am_chk, Bool.and_eq_true]
    exact ⟨h1.1, am_chk_app M n es h1.2 (by simpa using h2)⟩
theorem am_chk_cons {M : Nat} {e : am_I} {es : List am_I} (h : am_chk M (e :: es) = true) (hs : am_stop e = false) : decode (am_mi M).2.1 e.1 = .ok (e.2.1, e.2.2.1) ∧ am_okL (am_mi M).1.cls (am_mi M).1.name e = true ∧ am_rok (am_mi M).2.2.2 e.2.1 e.2.2.2.2 = true ∧ (am_uncond e.2.1 = true ∨ ∀ x, es.head? = some x → x.1 = e.1 + e.2.2.1) ∧ am_chk M es = true := by
  simp only [am_chk, hs, Bool.false_or, am_ok1, Bool.and_eq_true, decide_eq_true_eq, Bool.or_eq_true] at h
  obtain ⟨⟨⟨⟨h1, h2⟩, h5⟩, h3⟩, h4⟩ := h
  refine ⟨h1, h2, h5, ?_, h4⟩
  rcases h3 with h3 | h3
  · exact Or.inl h3
  · refine Or.inr fun x hx => ?_
    cases es with
    | nil => cases hx
    | cons e2 es =>
      cases hx
      exact beq_iff_eq.mp h3
theorem am_chk_at {M : Nat} {t : Nat} : ∀ {es : List am_I}, am_chk M es = true → am_chk M (am_at es t) = true
  | [], _ => rfl
  | e :: es, h => by
    unfold am_at
    split
    · exact h
    · simp only [am_chk, Bool.and_eq_true] at h
      exact am_chk_at h.2
theorem am_at_head {t : Nat} : ∀ {es : List am_I} {x : am_I}, (am_at es t).head? = some x → x.1 = t
  | [], x, h => by cases h
  | e :: es, x, h => by
    unfold am_at at h
    split at h
    next he => cases h; exact he
    next => exact am_at_head h
def am_cks (Ms : List Nat) : Bool := Ms.all (fun M => am_chk M (PG.1 M).1)
