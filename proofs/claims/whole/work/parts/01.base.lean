/-! A SMALL MACHINE (am_): the system's code on numbers of Lean's Int and a heap of cells told by their numbers from 0 on; one theorem (part sim) says that the real machine does what it does. -/
/-- a value: an int, a long, a reference (none: null, or nothing) -/
abbrev am_V : Type := Int ⊕ (Int ⊕ Option Nat)
/-- what an array holds: ints, longs, references -/
abbrev am_C : Type := (Nat → Int) ⊕ ((Nat → Int) ⊕ (Nat → Option Nat))
/-- a cell: an array (kind 0 int, 1 long, 2 byte, 3 boolean, 4 books, 5 the script), or an object (its class, its fields) -/
abbrev am_E : Type := (Nat × (Nat × am_C)) ⊕ (Nat × List am_V)
abbrev am_H : Type := (Nat × Nat) × (Nat → am_E)
/-- an instruction: pc, itself, length, operands resolved, a constant -/
abbrev am_I : Type := Nat × (Instr × (Nat × (List Nat × Int)))
abbrev am_R : Type := Option am_V × am_H
abbrev am_X : Type := Nat × (Nat × (List am_I × (List am_V × (List am_V × am_H))))
abbrev am_O : Type := am_R ⊕ (am_X ⊕ (am_X × (am_R → Option am_X)))
/-- the program: of each method its code and how many locals; of each class its fields as they are born -/
abbrev am_P : Type := (Nat → List am_I × Nat) × (Nat → List am_V)
def am_nul : am_V := .inr (.inr none)
def am_w (x : Int) : Int := Int.bmod x 4294967296
def am_wl (x : Int) : Int := Int.bmod x 18446744073709551616
def am_inI (x : Int) : Prop := -2147483648 ≤ x ∧ x < 2147483648
def am_inL (x : Int) : Prop := -9223372036854775808 ≤ x ∧ x < 9223372036854775808
theorem am_w_id {x : Int} (h1 : -2147483648 ≤ x) (h2 : x < 2147483648) : am_w x = x := by
  unfold am_w
  rw [Int.bmod_eq_of_le (by omega) (by omega)]
theorem am_wl_id {x : Int} (h1 : -9223372036854775808 ≤ x) (h2 : x < 9223372036854775808) : am_wl x = x := by
  unfold am_wl
  rw [Int.bmod_eq_of_le (by omega) (by omega)]
theorem am_w_in (x : Int) : am_inI (am_w x) := by
  unfold am_w am_inI
  have h1 := Int.le_bmod (x := x) (m := 4294967296) (by omega)
  have h2 := Int.bmod_lt (x := x) (m := 4294967296) (by omega)
  omega
theorem am_wl_in (x : Int) : am_inL (am_wl x) := by
  unfold am_wl am_inL
  have h1 := Int.le_bmod (x := x) (m := 18446744073709551616) (by omega)
  have h2 := Int.bmod_lt (x := x) (m := 18446744073709551616) (by omega)
  omega
def am_and (x y : Int) : Int := (Int32.ofInt x &&& Int32.ofInt y).toInt
def am_or (x y : Int) : Int := (Int32.ofInt x ||| Int32.ofInt y).toInt
def am_shl (x y : Int) : Int := (Int32.ofInt x <<< (Int32.ofInt y &&& 31)).toInt
def am_shr (x y : Int) : Int := (Int32.ofInt x >>> (Int32.ofInt y &&& 31)).toInt
def am_ushr (x y : Int) : Int := ((Int32.ofInt x).toUInt32 >>> ((Int32.ofInt y).toUInt32 &&& Int32.toUInt32 31)).toInt32.toInt
def am_i2b (x : Int) : Int := (Int32.ofInt x).toInt8.toInt32.toInt
def am_l2i (x : Int) : Int := (Int64.ofInt x).toInt32.toInt
def am_lor (x y : Int) : Int := (Int64.ofInt x ||| Int64.ofInt y).toInt
def am_lshl (x y : Int) : Int := (Int64.ofInt x <<< ((Int32.ofInt y).toInt64 &&& 63)).toInt
def am_lshr (x y : Int) : Int := (Int64.ofInt x >>> ((Int32.ofInt y).toInt64 &&& 63)).toInt
def am_div (x y : Int) : Int := (Int32.ofInt x / Int32.ofInt y).toInt
def am_rem (x y : Int) : Int := (Int32.ofInt x - Int32.ofInt x / Int32.ofInt y * Int32.ofInt y).toInt
def am_lcmp (x y : Int) : Int := if x < y then -1 else if x = y then 0 else 1
def am_max (x y : Int) : Int := if x < y then y else x
def am_min (x y : Int) : Int := if y < x then y else x
-- the heap
def am_up (h : am_H) (a : Nat) (e : am_E) : am_H := (h.1, fun q => if q = a then e else h.2 q)
def am_sz (e : am_E) : Nat := match e with
  | .inl (_, n, _) => n
  | .inr (_, fs) => fs.length
/-- how many cells there are, and how many fields and elements were made; a new cell comes behind the last -/
def am_push (h : am_H) (e : am_E) : am_H := ((h.1.1 + 1, h.1.2 + am_sz e), fun q => if q = h.1.1 then e else h.2 q)
def am_gI (h : am_H) (a ci k : Nat) : Option Int := match h.2 a with
  | .inr (c, fs) => if c = ci then (match fs[k]? with
    | some (.inl x) => some x
    | _ => none) else none
  | _ => none
def am_gR (h : am_H) (a ci k : Nat) : Option Nat := match h.2 a with
  | .inr (c, fs) => if c = ci then (match fs[k]? with
    | some (.inr (.inr (some q))) => some q
    | _ => none) else none
  | _ => none
def am_p (h : am_H) (a ci k : Nat) (v : am_V) : Option am_H := match h.2 a with
  | .inr (c, fs) => if c = ci ∧ k < fs.length then some (am_up h a (.inr (c, fs.set k v))) else none
  | _ => none
def am_lI (h : am_H) (a : Nat) (i : Int) : Option Int := match h.2 a with
  | .inl (t, n, .inl f) => if (t = 0 ∨ (t = 5 ∧ a = 0)) ∧ 0 ≤ i ∧ i < n then some (f i.toNat) else none
  | _ => none
def am_lB (h : am_H) (a : Nat) (i : Int) : Option Int := match h.2 a with
  | .inl (t, n, .inl f) => if (t = 2 ∨ t = 3) ∧ 0 ≤ i ∧ i < n then some (f i.toNat) else none
  | _ => none
def am_lL (h : am_H) (a : Nat) (i : Int) : Option Int := match h.2 a with
  | .inl (t, n, .inr (.inl f)) => if t = 1 ∧ 0 ≤ i ∧ i < n then some (f i.toNat) else none
  | _ => none
def am_lR (h : am_H) (a : Nat) (i : Int) : Option Nat := match h.2 a with
  | .inl (t, n, .inr (.inr f)) => if t = 4 ∧ 0 ≤ i ∧ i < n then f i.toNat else none
  | _ => none
def am_fu {α : Type} (f : Nat → α) (k : Nat) (x : α) : Nat → α := fun j => if j = k then x else f j
def am_sI (h : am_H) (a : Nat) (i x : Int) : Option am_H := match h.2 a with
  | .inl (t, n, .inl f) => if t = 0 ∧ 0 ≤ i ∧ i < n then some (am_up h a (.inl (t, n, .inl (am_fu f i.toNat x)))) else none
  | _ => none
def am_sB (h : am_H) (a : Nat) (i x : Int) : Option am_H := match h.2 a with
  | .inl (t, n, .inl f) => if ((t = 2 ∧ -128 ≤ x ∧ x < 128) ∨ (t = 3 ∧ 0 ≤ x ∧ x < 2)) ∧ 0 ≤ i ∧ i < n then some (am_up h a (.inl (t, n, .inl (am_fu f i.toNat x)))) else none
  | _ => none
def am_sL (h : am_H) (a : Nat) (i x : Int) : Option am_H := match h.2 a with
  | .inl (t, n, .inr (.inl f)) => if t = 1 ∧ 0 ≤ i ∧ i < n then some (am_up h a (.inl (t, n, .inr (.inl (am_fu f i.toNat x))))) else none
  | _ => none
/-- a book (class 0) into an array of books -/
def am_sR (h : am_H) (a : Nat) (i : Int) (q : Nat) : Option am_H := match h.2 a, h.2 q with
  | .inl (t, n, .inr (.inr f)), .inr (c, _) => if t = 4 ∧ c = 0 ∧ 0 ≤ i ∧ i < n then some (am_up h a (.inl (t, n, .inr (.inr (am_fu f i.toNat (some q)))))) else none
  | _, _ => none
def am_ln (h : am_H) (a : Nat) : Option Int := match h.2 a with
  | .inl (t, n, _) => if t = 5 → a = 0 then some n else none
  | _ => none
def am_cp (h : am_H) (a0 : Nat) (sp : Int) (a : Nat) (dp n : Int) : Option am_H := match h.2 a0, h.2 a with
  | .inl (t0, n0, .inl f), .inl (t1, n1, .inl g) => if t0 = 0 ∧ t1 = 0 ∧ 0 ≤ sp ∧ 0 ≤ dp ∧ 0 ≤ n ∧ sp + n ≤ n0 ∧ dp + n ≤ n1 then some (am_up h a (.inl (t1, n1, .inl (va_cpy f g sp.toNat dp.toNat n.toNat)))) else none
  | .inl (t0, n0, .inr (.inl f)), .inl (t1, n1, .inr (.inl g)) => if t0 = 1 ∧ t1 = 1 ∧ 0 ≤ sp ∧ 0 ≤ dp ∧ 0 ≤ n ∧ sp + n ≤ n0 ∧ dp + n ≤ n1 then some (am_up h a (.inl (t1, n1, .inr (.inl (va_cpy f g sp.toNat dp.toNat n.toNat))))) else none
  | _, _ => none
/-- a new array of a kind and length -/
def am_na (t : Nat) (n : Nat) : am_E := .inl (t, n, if t = 1 then .inr (.inl (fun _ => 0)) else if t = 4 then .inr (.inr (fun _ => none)) else .inl (fun _ => 0))
-- locals and stack
def am_isL (v : Option am_V) : Bool := match v with
  | some (.inr (.inl _)) => true
  | _ => false
/-- a store at i: what was a long in front of it is no more -/
def am_kill (ls : List am_V) (i : Nat) : List am_V := match i with
  | 0 => ls
  | j + 1 => if am_isL ls[j]? then ls.set j am_nul else ls
def am_st1 (ls : List am_V) (i : Nat) (v : am_V) : List am_V := (am_kill ls i).set i v
def am_st2 (ls : List am_V) (i : Nat) (v : am_V) : List am_V := ((am_kill ls i).set i v).set (i + 1) am_nul
def am_cat (v : am_V) : Nat := match v with
  | .inr (.inl _) => 2
  | _ => 1
def am_cats : List am_V → Nat
  | [] => 0
  | v :: l => am_cat v + am_cats l
def am_sl : List am_V → List am_V
  | [] => []
  | v :: l => match v with
    | .inr (.inl x) => .inr (.inl x) :: am_nul :: am_sl l
    | w => w :: am_sl l
def am_entry (args : List am_V) (n : Nat) : List am_V := am_sl args ++ List.replicate (n - (am_sl args).length) am_nul
def am_at : List am_I → Nat → List am_I
  | [], _ => []
  | e :: es, t => if e.1 = t then e :: es else am_at es t
def am_cmp (c : Jvm.ClassFile.Cond) (x y : Int) : Bool := match c with
  | .eq => decide (x = y)
  | .ne => decide (¬ x = y)
  | .lt => decide (x < y)
  | .ge => decide (y ≤ x)
  | .gt => decide (y < x)
  | .le => decide (x ≤ y)
def am_nx (d M : Nat) (es : List am_I) (ls st : List am_V) (h : am_H) : Option am_O := some (.inr (.inl (d, M, es, ls, st, h)))
def am_jp (P : am_P) (d M : Nat) (pc : Nat) (off : Int) (ls st : List am_V) (h : am_H) : Option am_O := am_nx d M (am_at (P.1 M).1 (pc + off).toNat) ls st h
def am_dn (r : Option am_V) (h : am_H) : Option am_O := some (.inl (r, h))
def am_ldI (d M : Nat) (es : List am_I) (ls st : List am_V) (h : am_H) (i : Nat) : Option am_O := match ls[i]? with
  | some (.inl x) => am_nx d M es ls (.inl x :: st) h
  | _ => none
def am_ldL (d M : Nat) (es : List am_I) (ls st : List am_V) (h : am_H) (i : Nat) : Option am_O := match ls[i]? with
  | some (.inr (.inl x)) => am_nx d M es ls (.inr (.inl x) :: st) h
  | _ => none
def am_ldR (d M : Nat) (es : List am_I) (ls st : List am_V) (h : am_H) (i : Nat) : Option am_O := match ls[i]? with
  | some (.inr (.inr (some x))) => am_nx d M es ls (.inr (.inr (some x)) :: st) h
  | _ => none
def am_toI (d M : Nat) (es : List am_I) (ls st : List am_V) (h : am_H) (i : Nat) : Option am_O := match st with
  | .inl x :: st => if i < ls.length then am_nx d M es (am_st1 ls i (.inl x)) st h else none
  | _ => none
def am_toR (d M : Nat) (es : List am_I) (ls st : List am_V) (h : am_H) (i : Nat) : Option am_O := match st with
  | .inr (.inr (some x)) :: st => if i < ls.length then am_nx d M es (am_st1 ls i (.inr (.inr (some x)))) st h else none
  | _ => none
def am_toL (d M : Nat) (es : List am_I) (ls st : List am_V) (h : am_H) (i : Nat) : Option am_O := match st with
  | .inr (.inl x) :: st => if i + 1 < ls.length then am_nx d M es (am_st2 ls i (.inr (.inl x))) st h else none
  | _ => none
def am_i2 (d M : Nat) (es : List am_I) (ls st : List am_V) (h : am_H) (f : Int → Int → Int) : Option am_O := match st with
  | .inl y :: .inl x :: st => am_nx d M es ls (.inl (f x y) :: st) h
  | _ => none
def am_dv (d M : Nat) (es : List am_I) (ls st : List am_V) (h : am_H) (f : Int → Int → Int) : Option am_O := match st with
  | .inl y :: .inl x :: st => if y = 0 then none else am_nx d M es ls (.inl (f x y) :: st) h
  | _ => none
def am_i1 (d M : Nat) (es : List am_I) (ls st : List am_V) (h : am_H) (f : Int → am_V) : Option am_O := match st with
  | .inl x :: st => am_nx d M es ls (f x :: st) h
  | _ => none
def am_l1 (d M : Nat) (es : List am_I) (ls st : List am_V) (h : am_H) (f : Int → am_V) : Option am_O := match st with
  | .inr (.inl x) :: st => am_nx d M es ls (f x :: st) h
  | _ => none
def am_l2 (d M : Nat) (es : List am_I) (ls st : List am_V) (h : am_H) (f : Int → Int → am_V) : Option am_O := match st with
  | .inr (.inl y) :: .inr (.inl x) :: st => am_nx d M es ls (f x y :: st) h
  | _ => none
def am_li (d M : Nat) (es : List am_I) (ls st : List am_V) (h : am_H) (f : Int → Int → Int) : Option am_O := match st with
  | .inl y :: .inr (.inl x) :: st => am_nx d M es ls (.inr (.inl (f x y)) :: st) h
  | _ => none
def am_gf (d M : Nat) (es : List am_I) (ls st : List am_V) (h : am_H) (os : List Nat) : Option am_O := match os, st with
  | ci :: k :: t :: _, .inr (.inr (some a)) :: st => if t = 2 then (am_gR h a ci k).bind (fun q => am_nx d M es ls (.inr (.inr (some q)) :: st) h) else (am_gI h a ci k).bind (fun x => am_nx d M es ls (.inl x :: st) h)
  | _, _ => none
def am_pf (d M : Nat) (es : List am_I) (ls st : List am_V) (h : am_H) (os : List Nat) : Option am_O := match os, st with
  | ci :: k :: t :: _, .inr (.inr (some q)) :: .inr (.inr (some a)) :: st => if t = 2 then (am_p h a ci k (.inr (.inr (some q)))).bind (fun h' => am_nx d M es ls st h') else none
  | ci :: k :: t :: _, .inl x :: .inr (.inr (some a)) :: st => if t = 0 ∨ (t = 1 ∧ 0 ≤ x ∧ x < 2) then (am_p h a ci k (.inl x)).bind (fun h' => am_nx d M es ls st h') else none
  | _, _ => none
def am_ai (d M : Nat) (es : List am_I) (ls st : List am_V) (h : am_H) (f : am_H → Nat → Int → Option am_V) : Option am_O := match st with
  | .inl i :: .inr (.inr (some a)) :: st => (f h a i).bind (fun v => am_nx d M es ls (v :: st) h)
  | _ => none
def am_as (d M : Nat) (es : List am_I) (ls st : List am_V) (h : am_H) (f : am_H → Nat → Int → Int → Option am_H) : Option am_O := match st with
  | .inl x :: .inl i :: .inr (.inr (some a)) :: st => (f h a i x).bind (fun h' => am_nx d M es ls st h')
  | _ => none
def am_ret (d M : Nat) (es : List am_I) (ls st : List am_V) (t : Nat) (r : am_R) : Option am_X := match t, r.1 with
  | 0, none => some (d, M, es, ls, st, r.2)
  | 1, some (.inl x) => some (d, M, es, ls, .inl x :: st, r.2)
  | 2, some (.inr (.inl x)) => some (d, M, es, ls, .inr (.inl x) :: st, r.2)
  | 3, some (.inr (.inr (some q))) => some (d, M, es, ls, .inr (.inr (some q)) :: st, r.2)
  | _, _ => none
/-- is the cell an object of that class -/
def am_isO (h : am_H) (a c : Nat) : Bool := match h.2 a with
  | .inr (k, _) => decide (k = c)
  | _ => false
/-- the receiver of a virtual call: of the class rc - 1 (0: no such call; 100: a constructor's) -/
def am_rcv (h : am_H) (rc : Nat) (args : List am_V) : Bool := match rc, args with
  | 0, _ => true
  | 100, .inr (.inr (some _)) :: _ => true
  | c + 1, .inr (.inr (some a)) :: _ => am_isO h a c
  | _, _ => false
/-- a call: operands: what kind (0: of the system), which method, how many arguments, what it answers, of what class the receiver is -/
def am_inv (P : am_P) (d M : Nat) (es : List am_I) (ls st : List am_V) (h : am_H) (os : List Nat) : Option am_O := match os with
  | 0 :: y :: n :: t :: rc :: _ => match d with
    | 0 => none
    | d' + 1 => if am_rcv h rc (st.take n).reverse = true ∧ n ≤ st.length ∧ am_cats (st.drop n) ≤ 8 ∧ (am_sl (st.take n).reverse).length ≤ (P.1 y).2 then some (.inr (.inr ((d', y, (P.1 y).1, am_entry (st.take n).reverse (P.1 y).2, [], h), am_ret (d' + 1) M es ls (st.drop n) t))) else none
  | 1 :: _ => (match st with
    | .inr (.inr (some _)) :: st => if am_cats st ≤ 8 then am_nx d M es ls st h else none
    | _ => none)
  | 2 :: _ => (match st with
    | .inl y :: .inl x :: st => if am_cats st ≤ 8 then am_nx d M es ls (.inl (am_max x y) :: st) h else none
    | _ => none)
  | 3 :: _ => (match st with
    | .inl y :: .inl x :: st => if am_cats st ≤ 8 then am_nx d M es ls (.inl (am_min x y) :: st) h else none
    | _ => none)
  | 4 :: _ => (match st with
    | .inr (.inl y) :: .inr (.inl x) :: st => if am_cats st ≤ 8 then am_nx d M es ls (.inr (.inl (am_min x y)) :: st) h else none
    | _ => none)
  | 5 :: _ => (match st with
    | .inl n :: .inl dp :: .inr (.inr (some a)) :: .inl sp :: .inr (.inr (some a0)) :: st => if am_cats st ≤ 8 then (am_cp h a0 sp a dp n).bind (fun h' => am_nx d M es ls st h') else none
    | _ => none)
  | _ => none
def am_nwa (d M : Nat) (es : List am_I) (ls st : List am_V) (h : am_H) (t : Nat) : Option am_O := match st with
  | .inl n :: st => if 0 ≤ n ∧ n ≤ 100000 then am_nx d M es ls (.inr (.inr (some h.1.1)) :: st) (am_push h (am_na t n.toNat)) else none
  | _ => none
def am_tsw (P : am_P) (d M pc : Nat) (df lo hi : Int) (offs : Array Int) (ls st : List am_V) (h : am_H) : Option am_O := match st with
  | .inl x :: st => if x < lo ∨ hi < x then am_jp P d M pc df ls st h else (match offs[(x - lo).toNat]? with
    | some off => am_jp P d M pc off ls st h
    | none => none)
  | _ => none
def am_plan (P : am_P) (X : am_X) : Option am_O := match X with
  | (_, _, [], _, _, _) => none
  | (d, M, (pc, i, _, os, z) :: es, ls, st, h) => match i with
    | .iload n => am_ldI d M es ls st h n
    | .iload_n n => am_ldI d M es ls st h n
    | .lload n => am_ldL d M es ls st h n
    | .lload_n n => am_ldL d M es ls st h n
    | .aload n => am_ldR d M es ls st h n
    | .aload_n n => am_ldR d M es ls st h n
    | .istore n => am_toI d M es ls st h n
    | .istore_n n => am_toI d M es ls st h n
    | .lstore n => am_toL d M es ls st h n
    | .lstore_n n => am_toL d M es ls st h n
    | .astore n => am_toR d M es ls st h n
    | .astore_n n => am_toR d M es ls st h n
    | .iinc n c => (match ls[n]? with
      | some (.inl x) => am_nx d M es (am_st1 ls n (.inl (am_w (x + c)))) st h
      | _ => none)
    | .iconst _ => am_nx d M es ls (.inl z :: st) h
    | .bipush _ => am_nx d M es ls (.inl z :: st) h
    | .sipush _ => am_nx d M es ls (.inl z :: st) h
    | .ldc _ => (match os with
      | [] => none
      | _ => am_nx d M es ls (.inl z :: st) h)
    | .ldc_w _ => am_nx d M es ls (.inl z :: st) h
    | .lconst _ => am_nx d M es ls (.inr (.inl z) :: st) h
    | .ldc2_w _ => am_nx d M es ls (.inr (.inl z) :: st) h
    | .iadd => am_i2 d M es ls st h (fun x y => am_w (x + y))
    | .isub => am_i2 d M es ls st h (fun x y => am_w (x - y))
    | .imul => am_i2 d M es ls st h (fun x y => am_w (x * y))
    | .iand => am_i2 d M es ls st h am_and
    | .ior => am_i2 d M es ls st h am_or
    | .ishl => am_i2 d M es ls st h am_shl
    | .ishr => am_i2 d M es ls st h am_shr
    | .iushr => am_i2 d M es ls st h am_ushr
    | .idiv => am_dv d M es ls st h am_div
    | .irem => am_dv d M es ls st h am_rem
    | .ineg => am_i1 d M es ls st h (fun x => .inl (am_w (-x)))
    | .i2l => am_i1 d M es ls st h (fun x => .inr (.inl x))
    | .i2b => am_i1 d M es ls st h (fun x => .inl (am_i2b x))
    | .l2i => am_l1 d M es ls st h (fun x => .inl (am_l2i x))
    | .ladd => am_l2 d M es ls st h (fun x y => .inr (.inl (am_wl (x + y))))
    | .lsub => am_l2 d M es ls st h (fun x y => .inr (.inl (am_wl (x - y))))
    | .lmul => am_l2 d M es ls st h (fun x y => .inr (.inl (am_wl (x * y))))
    | .lor => am_l2 d M es ls st h (fun x y => .inr (.inl (am_lor x y)))
    | .lcmp => am_l2 d M es ls st h (fun x y => .inl (am_lcmp x y))
    | .lshl => am_li d M es ls st h am_lshl
    | .lshr => am_li d M es ls st h am_lshr
    | .dup => (match st with
      | v :: st => if am_cat v = 1 then am_nx d M es ls (v :: v :: st) h else none
      | _ => none)
    | .pop => (match st with
      | v :: st => if am_cat v = 1 then am_nx d M es ls st h else none
      | _ => none)
    | .dup2 => (match st with
      | v :: w :: st => if am_cat v = 1 ∧ am_cat w = 1 then am_nx d M es ls (v :: w :: v :: w :: st) h else none
      | _ => none)
    | .if_icmp c off => (match st with
      | .inl y :: .inl x :: st => if am_cmp c x y = true then am_jp P d M pc off ls st h else am_nx d M es ls st h
      | _ => none)
    | .ifCond c off => (match st with
      | .inl x :: st => if am_cmp c x 0 = true then am_jp P d M pc off ls st h else am_nx d M es ls st h
      | _ => none)
    | .goto off => am_jp P d M pc off ls st h
    | .tableswitch df lo hi offs => am_tsw P d M pc df lo hi offs ls st h
    | .getfield _ => am_gf d M es ls st h os
    | .putfield _ => am_pf d M es ls st h os
    | .iaload => am_ai d M es ls st h (fun h a i => (am_lI h a i).map Sum.inl)
    | .baload => am_ai d M es ls st h (fun h a i => (am_lB h a i).map Sum.inl)
    | .laload => am_ai d M es ls st h (fun h a i => (am_lL h a i).map (fun x => .inr (.inl x)))
    | .aaload => am_ai d M es ls st h (fun h a i => (am_lR h a i).map (fun x => .inr (.inr (some x))))
    | .iastore => am_as d M es ls st h am_sI
    | .bastore => am_as d M es ls st h am_sB
    | .lastore => (match st with
      | .inr (.inl x) :: .inl i :: .inr (.inr (some a)) :: st => (am_sL h a i x).bind (fun h' => am_nx d M es ls st h')
      | _ => none)
    | .aastore => (match st with
      | .inr (.inr (some x)) :: .inl i :: .inr (.inr (some a)) :: st => (am_sR h a i x).bind (fun h' => am_nx d M es ls st h')
      | _ => none)
    | .arraylength => (match st with
      | .inr (.inr (some a)) :: st => (am_ln h a).bind (fun x => am_nx d M es ls (.inl x :: st) h)
      | _ => none)
    | .newarray _ => (match os with
      | t :: _ => am_nwa d M es ls st h t
      | _ => none)
    | .anewarray _ => am_nwa d M es ls st h 4
    | .new _ => (match os with
      | ci :: _ => am_nx d M es ls (.inr (.inr (some h.1.1)) :: st) (am_push h (.inr (ci, P.2 ci)))
      | _ => none)
    | .invokevirtual _ => am_inv P d M es ls st h os
    | .invokestatic _ => am_inv P d M es ls st h os
    | .invokespecial _ => am_inv P d M es ls st h os
    | .ireturn => (match st with
      | [.inl x] => if z = 0 ∨ (0 ≤ x ∧ x < 2) then am_dn (some (.inl x)) h else none
      | _ => none)
    | .lreturn => (match st with
      | [.inr (.inl x)] => am_dn (some (.inr (.inl x))) h
      | _ => none)
    | .areturn => (match st with
      | [.inr (.inr (some x))] => am_dn (some (.inr (.inr (some x)))) h
      | _ => none)
    | .return_ => (match st with
      | [] => am_dn none h
      | _ => none)
    | _ => none
def am_run (P : am_P) : Nat → am_X → Option am_R
  | 0, _ => none
  | n + 1, X => match am_plan P X with
    | none => none
    | some (.inl r) => some r
    | some (.inr (.inl Y)) => am_run P n Y
    | some (.inr (.inr (Y, k))) => (am_run P n Y).bind fun r => (k r).bind (am_run P n)
theorem am_run_mono {P : am_P} : ∀ (n : Nat) (X : am_X) (r : am_R), am_run P n X = some r → am_run P (n + 1) X = some r
  | 0, X, r, h => by simp [am_run] at h
  | n + 1, X, r, h => by
    have ih := am_run_mono (P := P) n
    unfold am_run at h ⊢
    cases hp : am_plan P X with
    | none => rw [hp] at h; exact h
    | some o =>
      rw [hp] at h
      rcases o with r0 | Y | ⟨Y, k⟩
      · exact h
      · exact ih Y r h
      · dsimp only at h ⊢
        cases hY : am_run P n Y with
        | none => rw [hY] at h; cases h
        | some r1 =>
          rw [hY] at h
          rw [ih Y r1 hY]
          dsimp only [Option.bind] at h ⊢
          cases hk : k r1 with
          | none => rw [hk] at h; cases h
          | some Z =>
            rw [hk] at h
            exact ih Z r h
theorem am_run_le {P : am_P} {n m : Nat} (h : n ≤ m) {X : am_X} {r : am_R} (hr : am_run P n X = some r) : am_run P m X = some r := by
  induction h with
  | refl => exact hr
  | step _ ih => exact am_run_mono _ _ _ ih
theorem am_run_det {P : am_P} {n m : Nat} {X : am_X} {r q : am_R} (hr : am_run P n X = some r) (hq : am_run P m X = some q) : r = q := by
  have h1 := am_run_le (Nat.le_max_left n m) hr
  have h2 := am_run_le (Nat.le_max_right n m) hq
  exact Option.some.inj (h1.symm.trans h2)
/-- what a frame comes to; none if it doesn't end, or does what it may not -/
noncomputable def am_ev (P : am_P) (X : am_X) : Option am_R :=
  @dite _ (∃ r : am_R, ∃ n : Nat, am_run P n X = some r) (Classical.propDecidable _) (fun h => some (Classical.choose h)) (fun _ => none)
theorem am_ev_iff {P : am_P} {X : am_X} {r : am_R} : am_ev P X = some r ↔ ∃ n, am_run P n X = some r := by
  unfold am_ev
  split
  next h =>
    obtain ⟨m, hm⟩ := Classical.choose_spec h
    constructor
    · intro q
      cases q
      exact ⟨m, hm⟩
    · rintro ⟨n, hn⟩
      rw [am_run_det hm hn]
  next h =>
    constructor
    · intro q; cases q
    · rintro ⟨n, hn⟩
      exact absurd ⟨r, n, hn⟩ h
theorem am_opt {α : Type} {a b : Option α} (h : ∀ r, a = some r ↔ b = some r) : a = b := by
  cases a with
  | none =>
    cases b with
    | none => rfl
    | some y => exact absurd ((h y).mpr rfl) (by simp)
  | some x => exact ((h x).mp rfl).symm
theorem am_ev_eq (P : am_P) (X : am_X) : am_ev P X = match am_plan P X with
    | none => none
    | some (.inl r) => some r
    | some (.inr (.inl Y)) => am_ev P Y
    | some (.inr (.inr (Y, k))) => (am_ev P Y).bind fun r => (k r).bind (am_ev P) := by
  refine am_opt fun r => ?_
  rw [am_ev_iff]
  cases hp : am_plan P X with
  | none =>
    constructor
    · rintro ⟨n, hn⟩
      cases n with
      | zero => cases hn
      | succ n => rw [am_run, hp] at hn; cases hn
    · intro h; cases h
  | some o =>
    rcases o with r0 | Y | ⟨Y, k⟩
    · constructor
      · rintro ⟨n, hn⟩
        cases n with
        | zero => cases hn
        | succ n => rw [am_run, hp] at hn; exact hn
      · intro h; exact ⟨1, by rw [am_run, hp]; exact h⟩
    · dsimp only
      rw [am_ev_iff]
      constructor
      · rintro ⟨n, hn⟩
        cases n with
        | zero => cases hn
        | succ n => rw [am_run, hp] at hn; exact ⟨n, hn⟩
      · rintro ⟨n, hn⟩
        exact ⟨n + 1, by rw [am_run, hp]; exact hn⟩
    · dsimp only
      constructor
      · rintro ⟨n, hn⟩
        cases n with
        | zero => cases hn
        | succ n =>
          rw [am_run, hp] at hn
          dsimp only at hn
          cases hY : am_run P n Y with
          | none => rw [hY] at hn; cases hn
          | some r1 =>
            rw [hY] at hn
            dsimp only [Option.bind] at hn
            rw [am_ev_iff.mpr ⟨n, hY⟩]
            dsimp only [Option.bind]
            cases hk : k r1 with
            | none => rw [hk] at hn; cases hn
            | some Z =>
              rw [hk] at hn
              exact am_ev_iff.mpr ⟨n, hn⟩
      · intro h
        cases hY : am_ev P Y with
        | none => rw [hY] at h; cases h
        | some r1 =>
          rw [hY] at h
          dsimp only [Option.bind] at h
          cases hk : k r1 with
          | none => rw [hk] at h; cases h
          | some Z =>
            rw [hk] at h
            obtain ⟨n, hn⟩ := am_ev_iff.mp hY
            obtain ⟨m, hm⟩ := am_ev_iff.mp h
            refine ⟨max n m + 1, ?_⟩
            rw [am_run, hp]
            dsimp only
            rw [am_run_le (Nat.le_max_left n m) hn]
            dsimp only [Option.bind]
            rw [hk]
            exact am_run_le (Nat.le_max_right n m) hm
