/-! ===== core 1: an abstract machine: shapes, values, configurations, ops ===== -/
/-- a field: a number (none), null, or the place of a cell -/
abbrev qF : Type := Option (Option Nat)
/-- a cell's shape: an object (class, fields), a row of ints (length), a row of references (0 Court, 1 Sheet; length; places) -/
abbrev qS : Type := (Nat × List qF) ⊕ (Nat ⊕ (Nat × Nat × List (Option Nat)))
/-- a heap: the shapes of the cells in the order of their making, and every number in them -/
abbrev qH : Type := List qS × (Nat → Nat → Int32)
/-- pc, locals, stack, heap, cells made, slots made -/
abbrev qC : Type := Nat × List Value × List Value × qH × Nat × Nat
/-- a call: method, arguments, the configuration behind it (without the answer) -/
abbrev qQ : Type := Nat × List Value × qC
abbrev qO : Type := Option (qC ⊕ (qQ ⊕ (Option Value × qC)))
abbrev qOp : Type := qC → qO
def qU : Value := .retAddr 0
def qSCR : Nat := 1000000
def qok (v : Value) : Bool := match v with
  | .long _ => false
  | .double _ => false
  | _ => true
def qup (h : Nat → Nat → Int32) (o k : Nat) (v : Int32) : Nat → Nat → Int32 := fun o' k' => if o' = o then (if k' = k then v else h o' k') else h o' k'
def qz (h : Nat → Nat → Int32) (o : Nat) : Nat → Nat → Int32 := fun o' k' => if o' = o then 0 else h o' k'
/-- a row of ints as a whole -/
def qrow (h : Nat → Nat → Int32) (o : Nat) (f : Nat → Int32) : Nat → Nat → Int32 := fun o' k' => if o' = o then f k' else h o' k'
def qfa (h : Nat → Nat → Int32) (o k : Nat) (f : qF) : Value := match f with
  | none => .int (h o k)
  | some none => .null
  | some (some p) => .ref p
def qcat (st : List Value) : Nat := (st.map fun v => v.category).sum
def qdrp : List Bool → List Value → List Value
  | [], l => l
  | _ :: _, [] => []
  | b :: bs, v :: l => (match b with | true => v | false => qU) :: qdrp bs l
/-! ops: the numbers ahead are written by a program; n is the pc behind -/
def oI (v : Int32) (n : Nat) : qOp := fun c => match c with
  | (_, ls, st, h) => some (.inl (n, ls, .int v :: st, h))
def oL (v : Int64) (n : Nat) : qOp := fun c => match c with
  | (_, ls, st, h) => some (.inl (n, ls, .long v :: st, h))
def oLdI (i n : Nat) : qOp := fun c => match c with
  | (_, ls, st, h) => match ls[i]? with
    | some (.int x) => some (.inl (n, ls, .int x :: st, h))
    | _ => none
def oLdL (i n : Nat) : qOp := fun c => match c with
  | (_, ls, st, h) => match ls[i]? with
    | some (.long x) => some (.inl (n, ls, .long x :: st, h))
    | _ => none
def oLdA (i n : Nat) : qOp := fun c => match c with
  | (_, ls, st, h) => match ls[i]? with
    | some (.ref x) => some (.inl (n, ls, .ref x :: st, h))
    | _ => none
def qpre (ls : List Value) (i : Nat) : Bool := match i with
  | 0 => true
  | j + 1 => match ls[j]? with
    | some v => qok v
    | none => false
def oStI (i n : Nat) : qOp := fun c => match c with
  | (_, ls, .int x :: st, h) => match qpre ls i, decide (i < ls.length) with
    | true, true => some (.inl (n, ls.set i (.int x), st, h))
    | _, _ => none
  | _ => none
def oStA (i n : Nat) : qOp := fun c => match c with
  | (_, ls, .ref x :: st, h) => match qpre ls i, decide (i < ls.length) with
    | true, true => some (.inl (n, ls.set i (.ref x), st, h))
    | _, _ => none
  | _ => none
def oInc (i : Nat) (k : Int32) (n : Nat) : qOp := fun c => match c with
  | (_, ls, st, h) => match ls[i]? with
    | some (.int x) => match qpre ls i with
      | true => some (.inl (n, ls.set i (.int (x + k)), st, h))
      | false => none
    | _ => none
def oBin (f : Int32 → Int32 → Int32) (n : Nat) : qOp := fun c => match c with
  | (_, ls, .int y :: .int x :: st, h) => some (.inl (n, ls, .int (f x y) :: st, h))
  | _ => none
def oDiv (f : Int32 → Int32 → Int32) (n : Nat) : qOp := fun c => match c with
  | (_, ls, .int y :: .int x :: st, h) => if y = 0 then none else some (.inl (n, ls, .int (f x y) :: st, h))
  | _ => none
def oUn (f : Int32 → Int32) (n : Nat) : qOp := fun c => match c with
  | (_, ls, .int x :: st, h) => some (.inl (n, ls, .int (f x) :: st, h))
  | _ => none
def oI2L (n : Nat) : qOp := fun c => match c with
  | (_, ls, .int x :: st, h) => some (.inl (n, ls, .long x.toInt64 :: st, h))
  | _ => none
def oL2I (n : Nat) : qOp := fun c => match c with
  | (_, ls, .long x :: st, h) => some (.inl (n, ls, .int x.toInt32 :: st, h))
  | _ => none
def oLBin (f : Int64 → Int64 → Int64) (n : Nat) : qOp := fun c => match c with
  | (_, ls, .long y :: .long x :: st, h) => some (.inl (n, ls, .long (f x y) :: st, h))
  | _ => none
def oLSh (f : Int64 → Int32 → Int64) (n : Nat) : qOp := fun c => match c with
  | (_, ls, .int y :: .long x :: st, h) => some (.inl (n, ls, .long (f x y) :: st, h))
  | _ => none
def oLcmp (n : Nat) : qOp := fun c => match c with
  | (_, ls, .long y :: .long x :: st, h) => some (.inl (n, ls, .int (lg_cmp x y) :: st, h))
  | _ => none
def oDup (n : Nat) : qOp := fun c => match c with
  | (_, ls, v :: st, h) => match qok v with
    | true => some (.inl (n, ls, v :: v :: st, h))
    | false => none
  | _ => none
def oDup2 (n : Nat) : qOp := fun c => match c with
  | (_, ls, v :: w :: st, h) => match qok v, qok w with
    | true, true => some (.inl (n, ls, v :: w :: v :: w :: st, h))
    | _, _ => none
  | _ => none
def oPop (n : Nat) : qOp := fun c => match c with
  | (_, ls, v :: st, h) => match qok v with
    | true => some (.inl (n, ls, st, h))
    | false => none
  | _ => none
def oGoto (t : Nat) : qOp := fun c => match c with
  | (_, ls, st, h) => some (.inl (t, ls, st, h))
def oIfEq (t n : Nat) : qOp := fun c => match c with
  | (_, ls, .int x :: st, h) => some (.inl ((if x = 0 then t else n), ls, st, h))
  | _ => none
def oIfNe (t n : Nat) : qOp := fun c => match c with
  | (_, ls, .int x :: st, h) => some (.inl ((if ¬ x = 0 then t else n), ls, st, h))
  | _ => none
def oIfLt (t n : Nat) : qOp := fun c => match c with
  | (_, ls, .int x :: st, h) => some (.inl ((if x < 0 then t else n), ls, st, h))
  | _ => none
def oIfGe (t n : Nat) : qOp := fun c => match c with
  | (_, ls, .int x :: st, h) => some (.inl ((if 0 ≤ x then t else n), ls, st, h))
  | _ => none
def oIfGt (t n : Nat) : qOp := fun c => match c with
  | (_, ls, .int x :: st, h) => some (.inl ((if 0 < x then t else n), ls, st, h))
  | _ => none
def oIfLe (t n : Nat) : qOp := fun c => match c with
  | (_, ls, .int x :: st, h) => some (.inl ((if x ≤ 0 then t else n), ls, st, h))
  | _ => none
def oCmEq (t n : Nat) : qOp := fun c => match c with
  | (_, ls, .int y :: .int x :: st, h) => some (.inl ((if x = y then t else n), ls, st, h))
  | _ => none
def oCmNe (t n : Nat) : qOp := fun c => match c with
  | (_, ls, .int y :: .int x :: st, h) => some (.inl ((if ¬ x = y then t else n), ls, st, h))
  | _ => none
def oCmLt (t n : Nat) : qOp := fun c => match c with
  | (_, ls, .int y :: .int x :: st, h) => some (.inl ((if x < y then t else n), ls, st, h))
  | _ => none
def oCmGe (t n : Nat) : qOp := fun c => match c with
  | (_, ls, .int y :: .int x :: st, h) => some (.inl ((if y ≤ x then t else n), ls, st, h))
  | _ => none
def oCmGt (t n : Nat) : qOp := fun c => match c with
  | (_, ls, .int y :: .int x :: st, h) => some (.inl ((if y < x then t else n), ls, st, h))
  | _ => none
def oCmLe (t n : Nat) : qOp := fun c => match c with
  | (_, ls, .int y :: .int x :: st, h) => some (.inl ((if x ≤ y then t else n), ls, st, h))
  | _ => none
def oSw (lo : Int) (ts : List Nat) (d : Nat) : qOp := fun c => match c with
  | (_, ls, .int x :: st, h) => some (.inl ((if x.toInt < lo ∨ lo + (ts.length : Int) - 1 < x.toInt then d else ts.getD (x.toInt - lo).toNat d), ls, st, h))
  | _ => none
def oGet (ci k n : Nat) : qOp := fun c => match c with
  | (_, ls, .ref o :: st, hp, r) => match hp.1[o]? with
    | some (.inl (cj, fs)) => match decide (cj = ci), fs[k]? with
      | true, some f => some (.inl (n, ls, qfa hp.2 o k f :: st, hp, r))
      | _, _ => none
    | _ => none
  | _ => none
def oPutI (ci k n : Nat) : qOp := fun c => match c with
  | (_, ls, .int v :: .ref o :: st, hp, r) => match hp.1[o]? with
    | some (.inl (cj, fs)) => match decide (cj = ci), fs[k]? with
      | true, some none => some (.inl (n, ls, st, (hp.1, qup hp.2 o k v), r))
      | _, _ => none
    | _ => none
  | _ => none
def oPutZ (ci k n : Nat) : qOp := fun c => match c with
  | (_, ls, .int v :: .ref o :: st, hp, r) => if v = 0 ∨ v = 1 then (match hp.1[o]? with
    | some (.inl (cj, fs)) => match decide (cj = ci), fs[k]? with
      | true, some none => some (.inl (n, ls, st, (hp.1, qup hp.2 o k v), r))
      | _, _ => none
    | _ => none) else none
  | _ => none
/-- a final field of a constructor -/
def oPutF (ci k n : Nat) : qOp := fun c => match c with
  | (_, ls, .ref v :: .ref o :: st, hp, r) => match hp.1[o]? with
    | some (.inl (cj, fs)) => match decide (cj = ci), fs[k]? with
      | true, some (some _) => some (.inl (n, ls, st, (hp.1.set o (.inl (cj, fs.set k (some (some v)))), hp.2), r))
      | _, _ => none
    | _ => none
  | _ => none
def oALd (n : Nat) : qOp := fun c => match c with
  | (_, ls, .int i :: .ref a :: st, hp, r) => match hp.1[a]? with
    | some (.inr (.inl N)) => if i < 0 ∨ N ≤ i.toNatClampNeg then none else some (.inl (n, ls, .int (hp.2 a i.toNatClampNeg) :: st, hp, r))
    | _ => none
  | _ => none
def oASt (n : Nat) : qOp := fun c => match c with
  | (_, ls, .int x :: .int i :: .ref a :: st, hp, r) => match hp.1[a]? with
    | some (.inr (.inl N)) => if i < 0 ∨ N ≤ i.toNatClampNeg then none else some (.inl (n, ls, st, (hp.1, qup hp.2 a i.toNatClampNeg x), r))
    | _ => none
  | _ => none
def qrf (r : Option Nat) : Value := match r with
  | none => .null
  | some p => .ref p
def oAALd (n : Nat) : qOp := fun c => match c with
  | (_, ls, .int i :: .ref a :: st, hp, r) => match hp.1[a]? with
    | some (.inr (.inr (_, N, rs))) => if i < 0 ∨ N ≤ i.toNatClampNeg then none else some (.inl (n, ls, qrf (rs.getD i.toNatClampNeg none) :: st, hp, r))
    | _ => none
  | _ => none
def oAASt (n : Nat) : qOp := fun c => match c with
  | (_, ls, .ref v :: .int i :: .ref a :: st, hp, r) => match hp.1[a]?, hp.1[v]? with
    | some (.inr (.inr (t, N, rs))), some (.inl (cj, _)) => if i < 0 ∨ N ≤ i.toNatClampNeg then none else match decide (cj = if t = 0 then 0 else 2), decide (rs.length = N) with
      | true, true => some (.inl (n, ls, st, (hp.1.set a (.inr (.inr (t, N, rs.set i.toNatClampNeg (some v)))), hp.2), r))
      | _, _ => none
    | _, _ => none
  | _ => none
def oLen (n : Nat) : qOp := fun c => match c with
  | (_, ls, .ref a :: st, hp, r) => match hp.1[a]? with
    | some (.inr (.inl N)) => some (.inl (n, ls, .int (Int32.ofNat N) :: st, hp, r))
    | some (.inr (.inr (_, N, _))) => some (.inl (n, ls, .int (Int32.ofNat N) :: st, hp, r))
    | _ => none
  | _ => none
/-- the law's own script -/
def oSLd (L : Nat) (xs : Nat → Int32) (n : Nat) : qOp := fun c => match c with
  | (_, ls, .int i :: .ref a :: st, h) => if a = qSCR ∧ ¬ (i < 0 ∨ L ≤ i.toNatClampNeg) then some (.inl (n, ls, .int (xs i.toNatClampNeg) :: st, h)) else none
  | _ => none
def oSLen (L n : Nat) : qOp := fun c => match c with
  | (_, ls, .ref a :: st, h) => if a = qSCR then some (.inl (n, ls, .int (Int32.ofNat L) :: st, h)) else none
  | _ => none
def oNew (ci N : Nat) (fs : List qF) (mc ms n : Nat) : qOp := fun c => match c with
  | (_, ls, st, hp, k, q) => if k + 1 ≤ mc ∧ q + N ≤ ms ∧ hp.1.length + 1 ≤ qSCR then some (.inl (n, ls, .ref hp.1.length :: st, (hp.1 ++ [.inl (ci, fs)], qz hp.2 hp.1.length), k + 1, q + N)) else none
def oNewI (mc ms n : Nat) : qOp := fun c => match c with
  | (_, ls, .int z :: st, hp, k, q) => if ¬ z < 0 ∧ z.toNatClampNeg ≤ 1000 ∧ k + 1 ≤ mc ∧ q + z.toNatClampNeg ≤ ms ∧ hp.1.length + 1 ≤ qSCR then some (.inl (n, ls, .ref hp.1.length :: st, (hp.1 ++ [.inr (.inl z.toNatClampNeg)], qz hp.2 hp.1.length), k + 1, q + z.toNatClampNeg)) else none
  | _ => none
def oNewR (t mc ms n : Nat) : qOp := fun c => match c with
  | (_, ls, .int z :: st, hp, k, q) => if ¬ z < 0 ∧ z.toNatClampNeg ≤ 1000 ∧ k + 1 ≤ mc ∧ q + z.toNatClampNeg ≤ ms ∧ hp.1.length + 1 ≤ qSCR then some (.inl (n, ls, .ref hp.1.length :: st, (hp.1 ++ [.inr (.inr (t, z.toNatClampNeg, List.replicate z.toNatClampNeg none))], hp.2), k + 1, q + z.toNatClampNeg)) else none
  | _ => none
def oObj (n : Nat) : qOp := fun c => match c with
  | (_, ls, .ref _ :: st, h) => match decide (qcat st ≤ 8) with
    | true => some (.inl (n, ls, st, h))
    | false => none
  | _ => none
def oCopy (n : Nat) : qOp := fun c => match c with
  | (_, ls, .int z :: .int dp :: .ref a :: .int sp :: .ref a0 :: st, hp, r) => match hp.1[a0]?, hp.1[a]? with
    | some (.inr (.inl n0)), some (.inr (.inl n1)) => if ¬ sp < 0 ∧ ¬ dp < 0 ∧ ¬ z < 0 ∧ sp.toNatClampNeg + z.toNatClampNeg ≤ n0 ∧ dp.toNatClampNeg + z.toNatClampNeg ≤ n1 ∧ qcat st ≤ 8 then some (.inl (n, ls, st, (hp.1, qrow hp.2 a (va_cpy (hp.2 a0) (hp.2 a) sp.toNatClampNeg dp.toNatClampNeg z.toNatClampNeg)), r)) else none
    | _, _ => none
  | _ => none
/-- Math.min, Math.max -/
def oMin (mc ms n : Nat) : qOp := fun c => match c with
  | (_, ls, .int y :: .int x :: st, hp, k, q) => match decide (qcat st ≤ 8), decide (k ≤ mc ∧ q ≤ ms) with
    | true, true => some (.inl (n, ls, .int (if y < x then y else x) :: st, hp, k, q))
    | _, _ => none
  | _ => none
def oMax (mc ms n : Nat) : qOp := fun c => match c with
  | (_, ls, .int y :: .int x :: st, hp, k, q) => match decide (qcat st ≤ 8), decide (k ≤ mc ∧ q ≤ ms) with
    | true, true => some (.inl (n, ls, .int (if x < y then y else x) :: st, hp, k, q))
    | _, _ => none
  | _ => none
/-- calls: method, number of arguments (the receiver too), what it makes, this method's budget -/
def oCallS (y na kc ks mc ms n : Nat) : qOp := fun c => match c with
  | (_, ls, st, hp, k, q) => match decide (na ≤ st.length), decide (qcat (st.drop na) ≤ 8), decide (k + kc ≤ mc ∧ q + ks ≤ ms) with
    | true, true, true => some (.inr (.inl (y, (st.take na).reverse, (n, ls, st.drop na, hp, k + kc, q + ks))))
    | _, _, _ => none
def oCallV (y ci na kc ks mc ms n : Nat) : qOp := fun c => match c with
  | (_, ls, st, hp, k, q) => match st[na]? with
    | some (.ref o) => match hp.1[o]? with
      | some (.inl (cj, _)) => match decide (cj = ci), decide (qcat (st.drop (na + 1)) ≤ 8), decide (k + kc ≤ mc ∧ q + ks ≤ ms) with
        | true, true, true => some (.inr (.inl (y, .ref o :: (st.take na).reverse, (n, ls, st.drop (na + 1), hp, k + kc, q + ks))))
        | _, _, _ => none
      | _ => none
    | _ => none
def oCallI (y na kc ks mc ms n : Nat) : qOp := fun c => match c with
  | (_, ls, st, hp, k, q) => match st[na]? with
    | some (.ref o) => match decide (qcat (st.drop (na + 1)) ≤ 8), decide (k + kc ≤ mc ∧ q + ks ≤ ms) with
        | true, true => some (.inr (.inl (y, .ref o :: (st.take na).reverse, (n, ls, st.drop (na + 1), hp, k + kc, q + ks))))
        | _, _ => none
    | _ => none
def oRetI : qOp := fun c => match c with
  | (pc, ls, [.int x], h) => some (.inr (.inr (some (.int x), (pc, ls, [.int x], h))))
  | _ => none
def oRetZ : qOp := fun c => match c with
  | (pc, ls, [.int x], h) => if x = 0 ∨ x = 1 then some (.inr (.inr (some (.int x), (pc, ls, [.int x], h)))) else none
  | _ => none
def oRetV : qOp := fun c => match c with
  | (pc, ls, [], h) => some (.inr (.inr (none, (pc, ls, [], h))))
  | _ => none
/-! runs -/
abbrev qM : Type := MethodName × ByteArray × Nat × Option FieldType × Nat × Nat
def Rn (call : Nat → List Value → qH → Option Value → qH → Prop) (cd : List (Nat × qOp)) : Nat → qC → Option Value × qC → Prop
  | 0, _, _ => False
  | k + 1, c, r => (∃ mask, Rn call cd k (c.1, qdrp mask c.2.1, c.2.2) r) ∨ match cd.lookup c.1 with
    | none => False
    | some op => match op c with
      | none => False
      | some (.inl c') => Rn call cd k c' r
      | some (.inr (.inl q)) => ∃ (v : Option Value) (h1 : qH), call q.1 q.2.1 q.2.2.2.2.2.1 v h1 ∧ Rn call cd k (q.2.2.1, q.2.2.2.1, v.toList ++ q.2.2.2.2.1, h1, q.2.2.2.2.2.2) r
      | some (.inr (.inr x)) => x = r
def qEnt (as : List Value) : List Value := as.flatMap fun v => match qok v with
  | true => [v]
  | false => [v, qU]
def qEn (ml : Nat) (as : List Value) : List Value := qEnt as ++ List.replicate (ml - (qEnt as).length) qU
def Ex (mt : List qM) (cd : List (List (Nat × qOp))) : Nat → Nat → List Value → qH → Option Value → qH → Prop
  | 0, _, _, _, _, _ => False
  | d + 1, y, as, hp, v, hp1 => ∃ (t : qM) (k : List (Nat × qOp)) (n : Nat) (c : qC), mt[y]? = some t ∧ cd[y]? = some k ∧ (qEnt as).length ≤ t.2.2.1 ∧ Rn (Ex mt cd d) k n (0, qEn t.2.2.1 as, [], hp, 0, 0) (v, c) ∧ c.2.2.2.1 = hp1 ∧ hp1.1.length = hp.1.length + t.2.2.2.2.1 ∧ c.2.2.2.2.1 ≤ t.2.2.2.2.1 ∧ c.2.2.2.2.2 ≤ t.2.2.2.2.2
