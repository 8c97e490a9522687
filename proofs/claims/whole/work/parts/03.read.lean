/-! ===== a big-step reading of the bytecode, over a memory of numbers: cells are numbered in the order of their making; 0 is the script, 1 the class's static array ===== -/
/-- what a cell is: (0,_) unknown; (1,n) ints; (2,n) longs; (3,n) bytes; (4+c,_) an object of class c (c < 11); (15+c,n) references to objects of class c -/
abbrev xSh : Type := Nat × Nat
/-- (sealed, known cells, cells made, slots made), kinds, ints, longs, references -/
abbrev xM : Type := (Bool × Nat × Nat × Nat) × (Nat → xSh) × (Nat → Nat → Int32) × (Nat → Nat → Int64) × (Nat → Nat → Option Nat)
def mSe (M : xM) : Bool := M.1.1
def mNx (M : xM) : Nat := M.1.2.1
def mNc (M : xM) : Nat := M.1.2.2.1
def mNs (M : xM) : Nat := M.1.2.2.2
def mSh (M : xM) : Nat → xSh := M.2.1
def mI (M : xM) : Nat → Nat → Int32 := M.2.2.1
def mL (M : xM) : Nat → Nat → Int64 := M.2.2.2.1
def mR (M : xM) : Nat → Nat → Option Nat := M.2.2.2.2
def up1 {α : Type} (f : Nat → α) (i : Nat) (v : α) : Nat → α := fun a => if a = i then v else f a
def up2 {α : Type} (f : Nat → Nat → α) (i j : Nat) (v : α) : Nat → Nat → α := fun a b => if a = i then (if b = j then v else f a b) else f a b
def wI (M : xM) (i j : Nat) (v : Int32) : xM := (M.1, mSh M, up2 (mI M) i j v, mL M, mR M)
def wL (M : xM) (i j : Nat) (v : Int64) : xM := (M.1, mSh M, mI M, up2 (mL M) i j v, mR M)
def wR (M : xM) (i j : Nat) (v : Option Nat) : xM := (M.1, mSh M, mI M, mL M, up2 (mR M) i j v)
def wC (M : xM) (i : Nat) (f : Nat → Int32) : xM := (M.1, mSh M, up1 (mI M) i f, mL M, mR M)
def xnew (M : xM) (sh : xSh) (n : Nat) : xM := ((mSe M, mNx M + 1, mNc M + 1, mNs M + n), up1 (mSh M) (mNx M) sh, up1 (mI M) (mNx M) (fun _ => 0), up1 (mL M) (mNx M) (fun _ => 0), up1 (mR M) (mNx M) (fun _ => none))
def xseal (M : xM) : xM := ((true, mNx M, mNc M + 1, mNs M + 6), M.2)
def xfind {α : Type} : List (Nat × α) → Nat → Option α
  | [], _ => none
  | q :: r, i => if q.1 = i then some q.2 else xfind r i
def xown (mi : Nat) : Nat := match xme mi with | some q => q.1 | none => 99
def xnam (mi : Nat) : MethodName := match xme mi with | some q => q.2.1 | none => ⟨"", "", ""⟩
def xcode (mi : Nat) : ByteArray := match xme mi with | some q => q.2.2.1 | none => ⟨#[]⟩
def xnL (mi : Nat) : Nat := match xme mi with | some q => q.2.2.2.1 | none => 0
def xret (mi : Nat) : Option FieldType := match xme mi with | some q => q.2.2.2.2.1 | none => none
def xnp (mi : Nat) : Nat := match xme mi with | some q => q.2.2.2.2.2.1 | none => 0
def xhh (mi : Nat) : List (Nat × Nat × Nat × Nat) := match xme mi with | some q => q.2.2.2.2.2.2.2 | none => []
def xfetch (mi pc : Nat) : Option (Instr × Nat) := match decode (xcode mi) pc with | .ok r => some r | .error _ => none
/-- pc, locals, operands, memory -/
abbrev xF : Type := Nat × List (Nat × Value) × List Value × xM
def xget : List (Nat × Value) → Nat → Option Value
  | [], _ => none
  | q :: r, i => if q.1 = i then some q.2 else xget r i
def xgI (l : List (Nat × Value)) (i : Nat) : Option Int32 := match xget l i with | some (.int x) => some x | _ => none
def xgL (l : List (Nat × Value)) (i : Nat) : Option Int64 := match xget l i with | some (.long x) => some x | _ => none
/-- a reference, null being none -/
def xgR (l : List (Nat × Value)) (i : Nat) : Option (Option Nat) := match xget l i with | some (.ref a) => some (some a) | some .null => some none | _ => none
/-- locals stand in the order of their places -/
def xins : List (Nat × Value) → Nat → Value → List (Nat × Value)
  | [], i, v => [(i, v)]
  | q :: r, i, v => if i < q.1 then (i, v) :: q :: r else q :: xins r i v
def xset1 (l : List (Nat × Value)) (i : Nat) (v : Value) : List (Nat × Value) := xins (l.filter (fun q => !(q.1 == i) && !(q.1 + 1 == i && q.2.category == 2))) i v
def xset2 (l : List (Nat × Value)) (i : Nat) (v : Value) : List (Nat × Value) := xins (l.filter (fun q => !(q.1 == i) && (!(q.1 == i + 1) && !(q.1 + 1 == i && q.2.category == 2)))) i v
def xrv (r : Option Nat) : Value := match r with | none => .null | some a => .ref a
def o1I {α : Type} (st : List Value) (f : Int32 → List Value → Option α) : Option α := match st with | .int x :: r => f x r | _ => none
def o1L {α : Type} (st : List Value) (f : Int64 → List Value → Option α) : Option α := match st with | .long x :: r => f x r | _ => none
def o1A {α : Type} (st : List Value) (f : Nat → List Value → Option α) : Option α := match st with | .ref x :: r => f x r | _ => none
def o1R {α : Type} (st : List Value) (f : Option Nat → List Value → Option α) : Option α := match st with | .ref x :: r => f (some x) r | .null :: r => f none r | _ => none
def o2I {α : Type} (st : List Value) (f : Int32 → Int32 → List Value → Option α) : Option α := match st with | .int y :: .int x :: r => f x y r | _ => none
def o2L {α : Type} (st : List Value) (f : Int64 → Int64 → List Value → Option α) : Option α := match st with | .long y :: .long x :: r => f x y r | _ => none
def oLI {α : Type} (st : List Value) (f : Int64 → Int32 → List Value → Option α) : Option α := match st with | .int y :: .long x :: r => f x y r | _ => none
def oAI {α : Type} (st : List Value) (f : Nat → Int32 → List Value → Option α) : Option α := match st with | .int j :: .ref a :: r => f a j r | _ => none
def oAII {α : Type} (st : List Value) (f : Nat → Int32 → Int32 → List Value → Option α) : Option α := match st with | .int x :: .int j :: .ref a :: r => f a j x r | _ => none
def oAIL {α : Type} (st : List Value) (f : Nat → Int32 → Int64 → List Value → Option α) : Option α := match st with | .long x :: .int j :: .ref a :: r => f a j x r | _ => none
def oAIA {α : Type} (st : List Value) (f : Nat → Int32 → Nat → List Value → Option α) : Option α := match st with | .ref x :: .int j :: .ref a :: r => f a j x r | _ => none
def xtest (c : ClassFile.Cond) (x y : Int32) : Bool := match c with | .eq => decide (x = y) | .ne => decide (x ≠ y) | .lt => decide (x < y) | .ge => decide (y ≤ x) | .gt => decide (y < x) | .le => decide (x ≤ y)
def xjump {α : Type} (pc : Nat) (off : Int) (f : Nat → Option α) : Option α := if 0 ≤ (pc : Int) + off then f ((pc : Int) + off).toNat else none
/-- a place in a row of n -/
def xin (j : Int32) (n : Nat) : Bool := decide (0 ≤ j.toInt) && decide (j.toInt < (n : Int))
def xtab : Nat → Int32 := fun j => ([1, 1, 2, 2, 4, 4, 8, 1] : List Int32).getD j 0
def xfinal (c k : Nat) : Bool := match vwCl[c]? with | some r => (r.2.1 k).2.2.2 | none => true
/-- what a field holds -/
def xfld (M : xM) (c a k : Nat) : Option Value := match (xfk c)[k]? with
  | some 2 => some (.long (mL M a k))
  | some 3 => some (xrv (mR M a k))
  | some _ => some (.int (mI M a k))
  | none => none
def xputf (M : xM) (c a k : Nat) (v : Value) : Option xM := match (xfk c)[k]?, v with
  | some 0, .int x => some (wI M a k x)
  | some 1, .int x => if x = 0 ∨ x = 1 then some (wI M a k x) else none
  | some 2, .long x => some (wL M a k x)
  | some 3, .ref b => if mSe M = false then some (wR M a k (some b)) else none
  | some 3, .null => if mSe M = false then some (wR M a k none) else none
  | _, _ => none
abbrev xF3 : Type := Nat × List (Nat × Value) × List Value
def xstepA (ins : Instr) (len mi pc : Nat) (l : List (Nat × Value)) (st : List Value) : Option xF3 :=
  match ins with
  | .iconst n => if len = 1 then some (pc + 1, l, .int (Int32.ofInt n) :: st) else none
  | .bipush n => if len = 2 then some (pc + 2, l, .int (Int8.ofInt n).toInt32 :: st) else none
  | .sipush n => if len = 3 then some (pc + 3, l, .int (Int16.ofInt n).toInt32 :: st) else none
  | .lconst n => if len = 1 then some (pc + 1, l, .long (Int64.ofNat (n : Nat)) :: st) else none
  | .aconst_null => if len = 1 then some (pc + 1, l, .null :: st) else none
  | .ldc i => if len = 2 then (xfind (xki (xown mi)) i).bind fun q => some (pc + 2, l, .int q.1 :: st) else none
  | .ldc2_w i => if len = 3 then (xfind (xkl (xown mi)) i).bind fun q => some (pc + 3, l, .long q.1 :: st) else none
  | .iload_n k => if len = 1 then (xgI l k).bind fun x => some (pc + 1, l, .int x :: st) else none
  | .iload k => if len = 2 then (xgI l k).bind fun x => some (pc + 2, l, .int x :: st) else none
  | .lload_n k => if len = 1 then (xgL l k).bind fun x => some (pc + 1, l, .long x :: st) else none
  | .lload k => if len = 2 then (xgL l k).bind fun x => some (pc + 2, l, .long x :: st) else none
  | .aload_n k => if len = 1 then (xgR l k).bind fun x => some (pc + 1, l, xrv x :: st) else none
  | .aload k => if len = 2 then (xgR l k).bind fun x => some (pc + 2, l, xrv x :: st) else none
  | .istore_n k => if len = 1 ∧ (k : Nat) < xnL mi then o1I st fun x r => some (pc + 1, xset1 l k (.int x), r) else none
  | .istore k => if len = 2 ∧ k < xnL mi then o1I st fun x r => some (pc + 2, xset1 l k (.int x), r) else none
  | .lstore_n k => if len = 1 ∧ (k : Nat) + 1 < xnL mi then o1L st fun x r => some (pc + 1, xset2 l k (.long x), r) else none
  | .lstore k => if len = 2 ∧ k + 1 < xnL mi then o1L st fun x r => some (pc + 2, xset2 l k (.long x), r) else none
  | .astore_n k => if len = 1 ∧ (k : Nat) < xnL mi then o1R st fun x r => some (pc + 1, xset1 l k (xrv x), r) else none
  | .astore k => if len = 2 ∧ k < xnL mi then o1R st fun x r => some (pc + 2, xset1 l k (xrv x), r) else none
  | .iinc k n => if len = 3 ∧ k < xnL mi then (xgI l k).bind fun x => some (pc + 3, xset1 l k (.int (x + Int32.ofInt n)), st) else none
  | .pop => if len = 1 then (match st with | v :: r => if v.category = 1 then some (pc + 1, l, r) else none | [] => none) else none
  | .dup => if len = 1 then (match st with | v :: r => if v.category = 1 then some (pc + 1, l, v :: v :: r) else none | [] => none) else none
  | .dup2 => if len = 1 then (match st with | v :: w :: r => if v.category = 1 ∧ w.category = 1 then some (pc + 1, l, v :: w :: v :: w :: r) else none | _ => none) else none
  | _ => none
def xstepB (ins : Instr) (len pc : Nat) (l : List (Nat × Value)) (st : List Value) : Option xF3 :=
  match ins with
  | .iadd => if len = 1 then o2I st fun x y r => some (pc + 1, l, .int (x + y) :: r) else none
  | .isub => if len = 1 then o2I st fun x y r => some (pc + 1, l, .int (x - y) :: r) else none
  | .imul => if len = 1 then o2I st fun x y r => some (pc + 1, l, .int (x * y) :: r) else none
  | .iand => if len = 1 then o2I st fun x y r => some (pc + 1, l, .int (x &&& y) :: r) else none
  | .ior => if len = 1 then o2I st fun x y r => some (pc + 1, l, .int (x ||| y) :: r) else none
  | .idiv => if len = 1 then o2I st fun x y r => if y = 0 then none else some (pc + 1, l, .int (x / y) :: r) else none
  | .irem => if len = 1 then o2I st fun x y r => if y = 0 then none else some (pc + 1, l, .int (x - x / y * y) :: r) else none
  | .ineg => if len = 1 then o1I st fun x r => some (pc + 1, l, .int (-x) :: r) else none
  | .ishl => if len = 1 then o2I st fun x y r => some (pc + 1, l, .int (x <<< (y &&& 31)) :: r) else none
  | .ishr => if len = 1 then o2I st fun x y r => some (pc + 1, l, .int (x >>> (y &&& 31)) :: r) else none
  | .i2l => if len = 1 then o1I st fun x r => some (pc + 1, l, .long x.toInt64 :: r) else none
  | .l2i => if len = 1 then o1L st fun x r => some (pc + 1, l, .int x.toInt32 :: r) else none
  | .i2b => if len = 1 then o1I st fun x r => some (pc + 1, l, .int x.toInt8.toInt32 :: r) else none
  | .i2s => if len = 1 then o1I st fun x r => some (pc + 1, l, .int x.toInt16.toInt32 :: r) else none
  | .ladd => if len = 1 then o2L st fun x y r => some (pc + 1, l, .long (x + y) :: r) else none
  | .lsub => if len = 1 then o2L st fun x y r => some (pc + 1, l, .long (x - y) :: r) else none
  | .lmul => if len = 1 then o2L st fun x y r => some (pc + 1, l, .long (x * y) :: r) else none
  | .land => if len = 1 then o2L st fun x y r => some (pc + 1, l, .long (x &&& y) :: r) else none
  | .lor => if len = 1 then o2L st fun x y r => some (pc + 1, l, .long (x ||| y) :: r) else none
  | .lxor => if len = 1 then o2L st fun x y r => some (pc + 1, l, .long (x ^^^ y) :: r) else none
  | .lshl => if len = 1 then oLI st fun x y r => some (pc + 1, l, .long (x <<< (y.toInt64 &&& 63)) :: r) else none
  | .lshr => if len = 1 then oLI st fun x y r => some (pc + 1, l, .long (x >>> (y.toInt64 &&& 63)) :: r) else none
  | .lushr => if len = 1 then oLI st fun x y r => some (pc + 1, l, .long (x.toUInt64 >>> (y.toInt64.toUInt64 &&& Int64.toUInt64 63)).toInt64 :: r) else none
  | .lcmp => if len = 1 then o2L st fun x y r => some (pc + 1, l, .int (lg_cmp x y) :: r) else none
  | .ifCond c off => if len = 3 then o1I st fun x r => xjump pc off fun t => if xtest c x 0 = true then some (t, l, r) else some (pc + 3, l, r) else none
  | .if_icmp c off => if len = 3 then o2I st fun x y r => xjump pc off fun t => if xtest c x y = true then some (t, l, r) else some (pc + 3, l, r) else none
  | .ifnull off => if len = 3 then o1R st fun x r => match x with | none => xjump pc off (fun t => some (t, l, r)) | some _ => some (pc + 3, l, r) else none
  | .ifnonnull off => if len = 3 then o1R st fun x r => match x with | some _ => xjump pc off (fun t => some (t, l, r)) | none => some (pc + 3, l, r) else none
  | .goto off => if len = 3 then xjump pc off (fun t => some (t, l, st)) else none
  | .tableswitch d lo hi offs => o1I st fun x r => if x.toInt < lo ∨ hi < x.toInt then xjump pc d (fun t => some (t, l, r)) else (offs[(x.toInt - lo).toNat]?).bind fun off => xjump pc off (fun t => some (t, l, r))
  | _ => none
def xstepC (S : Option (Nat × (Nat → Int32))) (ins : Instr) (len mi pc : Nat) (l : List (Nat × Value)) (st : List Value) (M : xM) : Option xF :=
  match ins with
  | .getfield i => if len = 3 then o1A st fun a r => (xfind (xft (xown mi)) i).bind fun q => if 2 ≤ a ∧ a < mNx M ∧ (mSh M a).1 = 4 + q.1 then (xfld M q.1 a q.2.1).bind fun v => some (pc + 3, l, v :: r, M) else none else none
  | .putfield i => if len = 3 then (match st with
      | v :: .ref a :: r => (xfind (xft (xown mi)) i).bind fun q => if 2 ≤ a ∧ a < mNx M ∧ (mSh M a).1 = 4 + q.1 ∧ (xfinal q.1 q.2.1 = true → (xnam mi).name = "<init>" ∧ xown mi = q.1) then (xputf M q.1 a q.2.1 v).bind fun M' => some (pc + 3, l, r, M') else none
      | _ => none) else none
  | .iaload => if len = 1 then oAI st fun a j r =>
      if a = 0 then S.bind fun q => if xin j q.1 = true then some (pc + 1, l, .int (q.2 j.toNatClampNeg) :: r, M) else none
      else if a = 1 then (if xin j 8 = true then some (pc + 1, l, .int (xtab j.toNatClampNeg) :: r, M) else none)
      else if a < mNx M ∧ (mSh M a).1 = 1 ∧ xin j (mSh M a).2 = true then some (pc + 1, l, .int (mI M a j.toNatClampNeg) :: r, M) else none else none
  | .laload => if len = 1 then oAI st fun a j r => if 2 ≤ a ∧ a < mNx M ∧ (mSh M a).1 = 2 ∧ xin j (mSh M a).2 = true then some (pc + 1, l, .long (mL M a j.toNatClampNeg) :: r, M) else none else none
  | .baload => if len = 1 then oAI st fun a j r => if 2 ≤ a ∧ a < mNx M ∧ (mSh M a).1 = 3 ∧ xin j (mSh M a).2 = true then some (pc + 1, l, .int (mI M a j.toNatClampNeg) :: r, M) else none else none
  | .aaload => if len = 1 then oAI st fun a j r => if 2 ≤ a ∧ a < mNx M ∧ 15 ≤ (mSh M a).1 ∧ xin j (mSh M a).2 = true then some (pc + 1, l, xrv (mR M a j.toNatClampNeg) :: r, M) else none else none
  | .iastore => if len = 1 then oAII st fun a j x r => if 2 ≤ a ∧ a < mNx M ∧ (mSh M a).1 = 1 ∧ xin j (mSh M a).2 = true then some (pc + 1, l, r, wI M a j.toNatClampNeg x) else none else none
  | .bastore => if len = 1 then oAII st fun a j x r => if 2 ≤ a ∧ a < mNx M ∧ (mSh M a).1 = 3 ∧ xin j (mSh M a).2 = true then some (pc + 1, l, r, wI M a j.toNatClampNeg x.toInt8.toInt32) else none else none
  | .lastore => if len = 1 then oAIL st fun a j x r => if 2 ≤ a ∧ a < mNx M ∧ (mSh M a).1 = 2 ∧ xin j (mSh M a).2 = true then some (pc + 1, l, r, wL M a j.toNatClampNeg x) else none else none
  | .aastore => if len = 1 then oAIA st fun a j x r => if 2 ≤ a ∧ a < mNx M ∧ 2 ≤ x ∧ x < mNx M ∧ 4 ≤ (mSh M x).1 ∧ (mSh M x).1 < 15 ∧ (mSh M a).1 = 11 + (mSh M x).1 ∧ xin j (mSh M a).2 = true ∧ mSe M = false then some (pc + 1, l, r, wR M a j.toNatClampNeg (some x)) else none else none
  | .arraylength => if len = 1 then o1A st fun a r =>
      if a = 0 then S.bind fun q => some (pc + 1, l, .int (Int32.ofNat q.1) :: r, M)
      else if 2 ≤ a ∧ a < mNx M ∧ ((mSh M a).1 = 1 ∨ (mSh M a).1 = 2) then some (pc + 1, l, .int (Int32.ofNat (mSh M a).2) :: r, M) else none else none
  | .getstatic i => if len = 3 ∧ xown mi = 9 ∧ i = 424 then some (pc + 3, l, .ref 1 :: st, M) else none
  | .newarray ty => if len = 2 ∧ mSe M = false then o1I st fun n r => if 0 ≤ n.toInt ∧ n.toNatClampNeg ≤ 65536 then
      (match ty with | .int => some (pc + 2, l, .ref (mNx M) :: r, xnew M (1, n.toNatClampNeg) n.toNatClampNeg) | .long => some (pc + 2, l, .ref (mNx M) :: r, xnew M (2, n.toNatClampNeg) n.toNatClampNeg) | .byte => some (pc + 2, l, .ref (mNx M) :: r, xnew M (3, n.toNatClampNeg) n.toNatClampNeg) | _ => none) else none else none
  | .anewarray i => if len = 3 ∧ mSe M = false then o1I st fun n r => if 0 ≤ n.toInt ∧ n.toNatClampNeg ≤ 65536 then (xfind (xna (xown mi)) i).bind fun q => some (pc + 3, l, .ref (mNx M) :: r, xnew M (15 + q.1, n.toNatClampNeg) n.toNatClampNeg) else none else none
  | .new i => if len = 3 ∧ mSe M = false then (xfind (xnw (xown mi)) i).bind fun q => some (pc + 3, l, .ref (mNx M) :: st, xnew M (4 + q.1, 0) (xfk q.1).length) else none
  | .invokestatic i => if len = 3 ∧ xown mi = 5 ∧ i = 40 then (match st with
      | .int n :: .int dp :: .ref a :: .int sp :: .ref b :: r => if 2 ≤ a ∧ a < mNx M ∧ 2 ≤ b ∧ b < mNx M ∧ a ≠ b ∧ (mSh M a).1 = 3 ∧ (mSh M b).1 = 3 ∧ 0 ≤ n.toInt ∧ 0 ≤ sp.toInt ∧ 0 ≤ dp.toInt ∧ sp.toNatClampNeg + n.toNatClampNeg ≤ (mSh M b).2 ∧ dp.toNatClampNeg + n.toNatClampNeg ≤ (mSh M a).2 ∧ (r.map fun v => v.category).sum ≤ 8 ∧ (List.range n.toNatClampNeg).all (fun i => fits .byte (.int (mI M b (sp.toNatClampNeg + i)))) = true then
          some (pc + 3, l, r, wC M a (va_cpy (mI M b) (mI M a) sp.toNatClampNeg dp.toNatClampNeg n.toNatClampNeg)) else none
      | _ => none) else none
  | _ => none
/-- Object's constructor -/
def xstepO (ins : Instr) (len mi pc : Nat) (l : List (Nat × Value)) (st : List Value) : Option xF3 :=
  match ins with
  | .invokespecial i => if len = 3 then (xoi (xown mi)).bind fun q => if q.1 = i then o1A st fun a r => if (r.map fun v => v.category).sum ≤ 8 then some (pc + 3, l, r) else none else none else none
  | _ => none
/-- one instruction that is no call, no end and no throw -/
def xstep (S : Option (Nat × (Nat → Int32))) (ins : Instr) (len mi pc : Nat) (l : List (Nat × Value)) (st : List Value) (M : xM) : Option xF :=
  ((((xstepA ins len mi pc l st).or (xstepB ins len pc l st)).or (xstepO ins len mi pc l st)).map fun q => (q.1, q.2.1, q.2.2, M)).or (xstepC S ins len mi pc l st M)
/-- a call: the method, its arguments, the operands below, a receiver's class being looked at -/
def xcall (ins : Instr) (len mi : Nat) (st : List Value) (M : xM) : Option (Nat × List Value × List Value × Bool) :=
  match ins with
  | .invokevirtual i => if len = 3 then (xfind (xct (xown mi)) i).bind fun q => if q.1 = 0 then (match st.drop (xnp q.2.1) with
      | .ref b :: r => if 2 ≤ b ∧ b < mNx M ∧ (mSh M b).1 = 4 + xown q.2.1 ∧ xown q.2.1 < 11 ∧ (st.take (xnp q.2.1)).length = xnp q.2.1 ∧ (r.map fun v => v.category).sum ≤ 8 then some (q.2.1, .ref b :: (st.take (xnp q.2.1)).reverse, r, true) else none
      | _ => none) else none else none
  | .invokestatic i => if len = 3 then (xfind (xct (xown mi)) i).bind fun q => if (q.1 = 1 ∨ q.1 = 4) ∧ (st.take (xnp q.2.1)).length = xnp q.2.1 ∧ ((st.drop (xnp q.2.1)).map fun v => v.category).sum ≤ 8 then some (q.2.1, (st.take (xnp q.2.1)).reverse, st.drop (xnp q.2.1), q.1 == 1) else none else none
  | .invokespecial i => if len = 3 then (xfind (xct (xown mi)) i).bind fun q => if (q.1 = 2 ∨ q.1 = 5) then (match st.drop (xnp q.2.1) with
      | .ref b :: r => if (st.take (xnp q.2.1)).length = xnp q.2.1 ∧ (r.map fun v => v.category).sum ≤ 8 then some (q.2.1, .ref b :: (st.take (xnp q.2.1)).reverse, r, false) else none
      | _ => none) else none else none
  | _ => none
/-- a method's end by itself -/
def xend (ins : Instr) (len mi : Nat) (st : List Value) : Option (Option Value) :=
  match ins with
  | .ireturn => if len = 1 then (match st with | [.int x] => (match xret mi with | some .int => some (some (.int x)) | some .boolean => if x = 0 ∨ x = 1 then some (some (.int x)) else none | _ => none) | _ => none) else none
  | .lreturn => if len = 1 ∧ xret mi = some .long then (match st with | [.long x] => some (some (.long x)) | _ => none) else none
  | .areturn => if len = 1 then (match st with | [.ref a] => (match xret mi with | some (.object _) => some (some (.ref a)) | _ => none) | [.null] => (match xret mi with | some (.object _) => some (some .null) | _ => none) | _ => none) else none
  | .return_ => if len = 1 ∧ xret mi = none then (match st with | [] => some none | _ => none) else none
  | _ => none
/-- a throw site: the exception -/
def xthr (ins : Instr) (mi pc : Nat) : Option Nat := match ins with | .new _ => (xth.find? (fun q => q.1 == mi && q.2.1 == pc)).map (fun q => q.2.2.1) | _ => none
/-- where exception k, thrown at pc, is caught: pc of the handler; none with no handler at all -/
def xhnd (hh : List (Nat × Nat × Nat × Nat)) (pc k : Nat) : Option Nat := match hh with
  | [] => none
  | h :: r => if h.1 ≤ pc ∧ pc < h.2.1 then (match xfind (xcc.map fun q => (q.1, q.2)) h.2.2.2 with | some q => if q.1 = k then some h.2.2.1 else xhnd r pc k | none => none) else none
/-- the handler's first instruction puts the exception away -/
def xcatch (mi pc : Nat) (l : List (Nat × Value)) : Option (Nat × List (Nat × Value)) := match xfetch mi pc with
  | some (.astore_n k, 1) => if (k : Nat) < xnL mi then some (pc + 1, l.filter (fun q => !(q.1 == (k : Nat)) && !(q.1 + 1 == (k : Nat) && q.2.category == 2))) else none
  | some (.astore k, 2) => if k < xnL mi then some (pc + 2, l.filter (fun q => !(q.1 == k) && !(q.1 + 1 == k && q.2.category == 2))) else none
  | _ => none
/-- what comes of a method: it answers, or throws exception k -/
abbrev xO : Type := (Option Value ⊕ Nat) × xM
/-- at a place where locals are forgotten -/
def xpr (mi pc : Nat) (l : List (Nat × Value)) : List (Nat × Value) := match xfind (xcut mi) pc with | none => l | some ks => l.filter (fun q => ks.contains q.1)
/-- at the head of the law's loop everything is made -/
def xsl (mi pc : Nat) (M : xM) : xM := if mi = 276 ∧ pc = 23 then ((true, mNx M, mNc M, mNs M), M.2) else M
def xrun (S : Option (Nat × (Nat → Int32))) : Nat → Nat → Nat → List (Nat × Value) → List Value → xM → Option xO
  | 0, _, _, _, _, _ => none
  | n + 1, mi, pc, l0, st, M0 =>
    let l := xpr mi pc l0
    let M := xsl mi pc M0
    match xfetch mi pc with
    | none => none
    | some (ins, len) =>
      match xthr ins mi pc with
      | some k => if 5 ≤ xrk mi ∧ st = [] then some (.inr k, xseal M) else none
      | none =>
      match xend ins len mi st with
      | some v => some (.inl v, M)
      | none =>
      match xstep S ins len mi pc l st M with
      | some F => xrun S n mi F.1 F.2.1 F.2.2.1 F.2.2.2
      | none =>
      match xcall ins len mi st M with
      | none => none
      | some q =>
        if (lg_sl q.2.1).length ≤ xnL q.1 ∧ xrk q.1 + 1 ≤ xrk mi then
          match xrun S n q.1 0 (lv_args 0 q.2.1) [] M with
          | none => none
          | some (.inl v, M') => xrun S n mi (pc + 3) l (v.toList ++ q.2.2.1) M'
          | some (.inr k, M') =>
            if q.2.2.2 = true then
            match xhh mi with
            | [] => some (.inr k, M')
            | h :: hs => match xhnd (h :: hs) pc k with
              | none => none
              | some hp => match xcatch mi hp l with
                | none => none
                | some c => xrun S n mi c.1 c.2 [] M'
            else none
        else none
