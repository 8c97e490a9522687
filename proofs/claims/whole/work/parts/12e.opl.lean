/-! ===== one lemma for each kind of instruction ===== -/
/-- values that are made by int instructions -/
def zand (x y : Int) : Int := (i32 x &&& i32 y).toInt
def zor (x y : Int) : Int := (i32 x ||| i32 y).toInt
def zshl (x y : Int) : Int := (i32 x <<< (i32 y &&& 31)).toInt
def zshr (x y : Int) : Int := (i32 x >>> (i32 y &&& 31)).toInt
def zl2i (x : Int64) : Int := x.toInt32.toInt
def zi2l (x : Int) : Int64 := (i32 x).toInt64
def zi2b (x : Int) : Int := (i32 x).toInt8.toInt32.toInt
def zi2s (x : Int) : Int := (i32 x).toInt16.toInt32.toInt
def zcmp (x y : Int64) : Int := if x > y then 1 else if x = y then 0 else -1
def zshlL (x : Int64) (y : Int) : Int64 := x <<< ((i32 y).toInt64 &&& 63)
def zshrL (x : Int64) (y : Int) : Int64 := x >>> ((i32 y).toInt64 &&& 63)
def zushrL (x : Int64) (y : Int) : Int64 := (x.toUInt64 >>> ((i32 y).toInt64.toUInt64 &&& Int64.toUInt64 63)).toInt64
def ztab (j : Int) : Int := (xtab j.toNat).toInt
/-- what a method gives back -/
abbrev rI (x : Int) : Option Value ⊕ Nat := .inl (some (iv x))
abbrev rL (x : Int64) : Option Value ⊕ Nat := .inl (some (.long x))
abbrev rA (x : Int) : Option Value ⊕ Nat := .inl (some (rf x))
abbrev rN : Option Value ⊕ Nat := .inl (some .null)
abbrev rU : Option Value ⊕ Nat := .inl none
abbrev rT (k : Nat) : Option Value ⊕ Nat := .inr k
theorem rng_to (x : Int32) : rng x.toInt := by
  have h1 := Int32.minValue_le_toInt x
  have h2 := Int32.toInt_le x
  have e1 : Int32.minValue.toInt = -2147483648 := by decide
  have e2 : Int32.maxValue.toInt = 2147483647 := by decide
  rw [e1] at h1
  rw [e2] at h2
  constructor <;> omega
section OPL
variable {S : Option (Nat × (Nat → Int32))} {mi pc pc' : Nat} {l l' : List (Nat × Value)} {st st' : List Value} {s s' : zSt} {Q : Option Value ⊕ Nat → zSt → Prop} {ins : Instr} {x y z a j : Int} {u v : Int64}
theorem i_iconst {n : Int} (hf : xfetch mi pc = some (.iconst n, 1)) (hp : xpr mi pc l = l) (k : wp S mi (pc + 1) l (iv n :: st) s Q) : wp S mi pc l st s Q :=
  wp_step hf hp rfl rfl (fun _ => st_A rfl) id k
theorem i_bipush {n : Int} (hf : xfetch mi pc = some (.bipush n, 2)) (hp : xpr mi pc l = l) (hv : (Int8.ofInt n).toInt32 = i32 n) (k : wp S mi (pc + 2) l (iv n :: st) s Q) : wp S mi pc l st s Q :=
  wp_step hf hp rfl rfl (fun _ => st_A rfl) id (by rw [hv]; exact k)
theorem i_sipush {n : Int} (hf : xfetch mi pc = some (.sipush n, 3)) (hp : xpr mi pc l = l) (hv : (Int16.ofInt n).toInt32 = i32 n) (k : wp S mi (pc + 3) l (iv n :: st) s Q) : wp S mi pc l st s Q :=
  wp_step hf hp rfl rfl (fun _ => st_A rfl) id (by rw [hv]; exact k)
theorem i_lconst {n : Fin 2} (hf : xfetch mi pc = some (.lconst n, 1)) (hp : xpr mi pc l = l) (k : wp S mi (pc + 1) l (.long (Int64.ofNat n) :: st) s Q) : wp S mi pc l st s Q :=
  wp_step hf hp rfl rfl (fun _ => st_A rfl) id k
theorem i_null (hf : xfetch mi pc = some (.aconst_null, 1)) (hp : xpr mi pc l = l) (k : wp S mi (pc + 1) l (.null :: st) s Q) : wp S mi pc l st s Q :=
  wp_step hf hp rfl rfl (fun _ => st_A rfl) id k
theorem i_ldc {i : Nat} {w : Nat} {q : Int32} (hf : xfetch mi pc = some (.ldc i, 2)) (hp : xpr mi pc l = l) (hq : xfind (xki (xown mi)) i = some (q, w)) (hv : q = i32 x) (k : wp S mi (pc + 2) l (iv x :: st) s Q) : wp S mi pc l st s Q :=
  wp_step hf hp rfl rfl (fun _ => st_A (F := (pc + 2, l, iv x :: st)) (by
    show (if 2 = 2 then (xfind (xki (xown mi)) i).bind _ else none) = _
    rw [if_pos rfl, hq, hv]; rfl)) id k
theorem i_ldc2 {i : Nat} {w : Nat} {q : Int64} (hf : xfetch mi pc = some (.ldc2_w i, 3)) (hp : xpr mi pc l = l) (hq : xfind (xkl (xown mi)) i = some (q, w)) (k : wp S mi (pc + 3) l (.long q :: st) s Q) : wp S mi pc l st s Q :=
  wp_step hf hp rfl rfl (fun _ => st_A (F := (pc + 3, l, .long q :: st)) (by
    show (if 3 = 3 then (xfind (xkl (xown mi)) i).bind _ else none) = _
    rw [if_pos rfl, hq]; rfl)) id k
theorem i_iload_n {n : Fin 4} (hf : xfetch mi pc = some (.iload_n n, 1)) (hp : xpr mi pc l = l) (hg : xget l n = some (iv x)) (k : wp S mi (pc + 1) l (iv x :: st) s Q) : wp S mi pc l st s Q :=
  wp_step hf hp rfl rfl (fun _ => st_A (F := (pc + 1, l, iv x :: st)) (by
    show (if 1 = 1 then (xgI l n).bind _ else none) = _
    rw [if_pos rfl]; unfold xgI; rw [hg]; rfl)) id k
theorem i_iload {n : Nat} (hf : xfetch mi pc = some (.iload n, 2)) (hp : xpr mi pc l = l) (hg : xget l n = some (iv x)) (k : wp S mi (pc + 2) l (iv x :: st) s Q) : wp S mi pc l st s Q :=
  wp_step hf hp rfl rfl (fun _ => st_A (F := (pc + 2, l, iv x :: st)) (by
    show (if 2 = 2 then (xgI l n).bind _ else none) = _
    rw [if_pos rfl]; unfold xgI; rw [hg]; rfl)) id k
theorem i_lload_n {n : Fin 4} (hf : xfetch mi pc = some (.lload_n n, 1)) (hp : xpr mi pc l = l) (hg : xget l n = some (.long u)) (k : wp S mi (pc + 1) l (.long u :: st) s Q) : wp S mi pc l st s Q :=
  wp_step hf hp rfl rfl (fun _ => st_A (F := (pc + 1, l, .long u :: st)) (by
    show (if 1 = 1 then (xgL l n).bind _ else none) = _
    rw [if_pos rfl]; unfold xgL; rw [hg]; rfl)) id k
theorem i_lload {n : Nat} (hf : xfetch mi pc = some (.lload n, 2)) (hp : xpr mi pc l = l) (hg : xget l n = some (.long u)) (k : wp S mi (pc + 2) l (.long u :: st) s Q) : wp S mi pc l st s Q :=
  wp_step hf hp rfl rfl (fun _ => st_A (F := (pc + 2, l, .long u :: st)) (by
    show (if 2 = 2 then (xgL l n).bind _ else none) = _
    rw [if_pos rfl]; unfold xgL; rw [hg]; rfl)) id k
theorem i_aload_n {n : Fin 4} (hf : xfetch mi pc = some (.aload_n n, 1)) (hp : xpr mi pc l = l) (hg : xget l n = some (rf a)) (k : wp S mi (pc + 1) l (rf a :: st) s Q) : wp S mi pc l st s Q :=
  wp_step hf hp rfl rfl (fun _ => st_A (F := (pc + 1, l, rf a :: st)) (by
    show (if 1 = 1 then (xgR l n).bind _ else none) = _
    rw [if_pos rfl]; unfold xgR; rw [hg]; rfl)) id k
theorem i_aload {n : Nat} (hf : xfetch mi pc = some (.aload n, 2)) (hp : xpr mi pc l = l) (hg : xget l n = some (rf a)) (k : wp S mi (pc + 2) l (rf a :: st) s Q) : wp S mi pc l st s Q :=
  wp_step hf hp rfl rfl (fun _ => st_A (F := (pc + 2, l, rf a :: st)) (by
    show (if 2 = 2 then (xgR l n).bind _ else none) = _
    rw [if_pos rfl]; unfold xgR; rw [hg]; rfl)) id k
theorem orf_pos (h : 0 ≤ a) : orf a = rf a := by unfold orf; rw [if_neg (by omega)]; rfl
theorem orf_neg (h : a < 0) : orf a = .null := by unfold orf; rw [if_pos h]; rfl
theorem i_aloadN_n {n : Fin 4} (hf : xfetch mi pc = some (.aload_n n, 1)) (hp : xpr mi pc l = l) (hg : xget l n = some (orf a)) (k : wp S mi (pc + 1) l (orf a :: st) s Q) : wp S mi pc l st s Q := by
  by_cases h : a < 0
  · rw [orf_neg h] at hg k
    refine wp_step hf hp rfl rfl (fun _ => st_A (F := (pc + 1, l, .null :: st)) ?_) id k
    show (if 1 = 1 then (xgR l n).bind _ else none) = _
    rw [if_pos rfl]; unfold xgR; rw [hg]; rfl
  · rw [orf_pos (by omega)] at hg k
    exact i_aload_n hf hp hg k
theorem i_aloadN {n : Nat} (hf : xfetch mi pc = some (.aload n, 2)) (hp : xpr mi pc l = l) (hg : xget l n = some (orf a)) (k : wp S mi (pc + 2) l (orf a :: st) s Q) : wp S mi pc l st s Q := by
  by_cases h : a < 0
  · rw [orf_neg h] at hg k
    refine wp_step hf hp rfl rfl (fun _ => st_A (F := (pc + 2, l, .null :: st)) ?_) id k
    show (if 2 = 2 then (xgR l n).bind _ else none) = _
    rw [if_pos rfl]; unfold xgR; rw [hg]; rfl
  · rw [orf_pos (by omega)] at hg k
    exact i_aload hf hp hg k
theorem i_istore_n {n : Fin 4} (hf : xfetch mi pc = some (.istore_n n, 1)) (hp : xpr mi pc l = l) (hn : (n : Nat) < xnL mi) (hl : xset1 l n (iv x) = l') (k : wp S mi (pc + 1) l' st s Q) : wp S mi pc l (iv x :: st) s Q :=
  wp_step hf hp rfl rfl (fun _ => st_A (F := (pc + 1, l', st)) (by
    show (if 1 = 1 ∧ (n : Nat) < xnL mi then some (pc + 1, xset1 l n (iv x), st) else none) = _
    rw [if_pos ⟨rfl, hn⟩, hl])) id k
theorem i_istore {n : Nat} (hf : xfetch mi pc = some (.istore n, 2)) (hp : xpr mi pc l = l) (hn : n < xnL mi) (hl : xset1 l n (iv x) = l') (k : wp S mi (pc + 2) l' st s Q) : wp S mi pc l (iv x :: st) s Q :=
  wp_step hf hp rfl rfl (fun _ => st_A (F := (pc + 2, l', st)) (by
    show (if 2 = 2 ∧ n < xnL mi then some (pc + 2, xset1 l n (iv x), st) else none) = _
    rw [if_pos ⟨rfl, hn⟩, hl])) id k
theorem i_lstore_n {n : Fin 4} (hf : xfetch mi pc = some (.lstore_n n, 1)) (hp : xpr mi pc l = l) (hn : (n : Nat) + 1 < xnL mi) (hl : xset2 l n (.long u) = l') (k : wp S mi (pc + 1) l' st s Q) : wp S mi pc l (.long u :: st) s Q :=
  wp_step hf hp rfl rfl (fun _ => st_A (F := (pc + 1, l', st)) (by
    show (if 1 = 1 ∧ (n : Nat) + 1 < xnL mi then some (pc + 1, xset2 l n (.long u), st) else none) = _
    rw [if_pos ⟨rfl, hn⟩, hl])) id k
theorem i_lstore {n : Nat} (hf : xfetch mi pc = some (.lstore n, 2)) (hp : xpr mi pc l = l) (hn : n + 1 < xnL mi) (hl : xset2 l n (.long u) = l') (k : wp S mi (pc + 2) l' st s Q) : wp S mi pc l (.long u :: st) s Q :=
  wp_step hf hp rfl rfl (fun _ => st_A (F := (pc + 2, l', st)) (by
    show (if 2 = 2 ∧ n + 1 < xnL mi then some (pc + 2, xset2 l n (.long u), st) else none) = _
    rw [if_pos ⟨rfl, hn⟩, hl])) id k
theorem i_astore_n {n : Fin 4} (hf : xfetch mi pc = some (.astore_n n, 1)) (hp : xpr mi pc l = l) (hn : (n : Nat) < xnL mi) (hl : xset1 l n (rf a) = l') (k : wp S mi (pc + 1) l' st s Q) : wp S mi pc l (rf a :: st) s Q :=
  wp_step hf hp rfl rfl (fun _ => st_A (F := (pc + 1, l', st)) (by
    show (if 1 = 1 ∧ (n : Nat) < xnL mi then some (pc + 1, xset1 l n (rf a), st) else none) = _
    rw [if_pos ⟨rfl, hn⟩, hl])) id k
theorem i_astore {n : Nat} (hf : xfetch mi pc = some (.astore n, 2)) (hp : xpr mi pc l = l) (hn : n < xnL mi) (hl : xset1 l n (rf a) = l') (k : wp S mi (pc + 2) l' st s Q) : wp S mi pc l (rf a :: st) s Q :=
  wp_step hf hp rfl rfl (fun _ => st_A (F := (pc + 2, l', st)) (by
    show (if 2 = 2 ∧ n < xnL mi then some (pc + 2, xset1 l n (rf a), st) else none) = _
    rw [if_pos ⟨rfl, hn⟩, hl])) id k
theorem i_astore0_n {n : Fin 4} (hf : xfetch mi pc = some (.astore_n n, 1)) (hp : xpr mi pc l = l) (hn : (n : Nat) < xnL mi) (hl : xset1 l n .null = l') (k : wp S mi (pc + 1) l' st s Q) : wp S mi pc l (.null :: st) s Q :=
  wp_step hf hp rfl rfl (fun _ => st_A (F := (pc + 1, l', st)) (by
    show (if 1 = 1 ∧ (n : Nat) < xnL mi then some (pc + 1, xset1 l n .null, st) else none) = _
    rw [if_pos ⟨rfl, hn⟩, hl])) id k
theorem i_astore0 {n : Nat} (hf : xfetch mi pc = some (.astore n, 2)) (hp : xpr mi pc l = l) (hn : n < xnL mi) (hl : xset1 l n .null = l') (k : wp S mi (pc + 2) l' st s Q) : wp S mi pc l (.null :: st) s Q :=
  wp_step hf hp rfl rfl (fun _ => st_A (F := (pc + 2, l', st)) (by
    show (if 2 = 2 ∧ n < xnL mi then some (pc + 2, xset1 l n .null, st) else none) = _
    rw [if_pos ⟨rfl, hn⟩, hl])) id k
theorem i_astoreN_n {n : Fin 4} (hf : xfetch mi pc = some (.astore_n n, 1)) (hp : xpr mi pc l = l) (hn : (n : Nat) < xnL mi) (hl : xset1 l n (orf a) = l') (k : wp S mi (pc + 1) l' st s Q) : wp S mi pc l (orf a :: st) s Q := by
  by_cases h : a < 0
  · rw [orf_neg h] at hl ⊢; exact i_astore0_n hf hp hn hl k
  · rw [orf_pos (by omega)] at hl ⊢; exact i_astore_n hf hp hn hl k
theorem i_astoreN {n : Nat} (hf : xfetch mi pc = some (.astore n, 2)) (hp : xpr mi pc l = l) (hn : n < xnL mi) (hl : xset1 l n (orf a) = l') (k : wp S mi (pc + 2) l' st s Q) : wp S mi pc l (orf a :: st) s Q := by
  by_cases h : a < 0
  · rw [orf_neg h] at hl ⊢; exact i_astore0 hf hp hn hl k
  · rw [orf_pos (by omega)] at hl ⊢; exact i_astore hf hp hn hl k
theorem i_iinc {n : Nat} {d : Int} (hf : xfetch mi pc = some (.iinc n d, 3)) (hp : xpr mi pc l = l) (hn : n < xnL mi) (hg : xget l n = some (iv x)) (hl : xset1 l n (iv (x + d)) = l') (k : wp S mi (pc + 3) l' st s Q) : wp S mi pc l st s Q :=
  wp_step hf hp rfl rfl (fun _ => st_A (F := (pc + 3, l', st)) (by
    show (if 3 = 3 ∧ n < xnL mi then (xgI l n).bind _ else none) = _
    rw [if_pos ⟨rfl, hn⟩]
    unfold xgI
    rw [hg]
    show some (pc + 3, xset1 l n (.int (i32 x + Int32.ofInt d)), st) = _
    rw [← Int32.ofInt_add, hl])) id k
theorem i_pop {w : Value} (hf : xfetch mi pc = some (.pop, 1)) (hp : xpr mi pc l = l) (hw : w.category = 1) (k : wp S mi (pc + 1) l st s Q) : wp S mi pc l (w :: st) s Q :=
  wp_step hf hp rfl rfl (fun _ => st_A (F := (pc + 1, l, st)) (by
    show (if 1 = 1 then (if w.category = 1 then some (pc + 1, l, st) else none) else none) = _
    rw [if_pos rfl, if_pos hw])) id k
theorem i_dup {w : Value} (hf : xfetch mi pc = some (.dup, 1)) (hp : xpr mi pc l = l) (hw : w.category = 1) (k : wp S mi (pc + 1) l (w :: w :: st) s Q) : wp S mi pc l (w :: st) s Q :=
  wp_step hf hp rfl rfl (fun _ => st_A (F := (pc + 1, l, w :: w :: st)) (by
    show (if 1 = 1 then (if w.category = 1 then some (pc + 1, l, w :: w :: st) else none) else none) = _
    rw [if_pos rfl, if_pos hw])) id k
theorem i_dup2 {w w' : Value} (hf : xfetch mi pc = some (.dup2, 1)) (hp : xpr mi pc l = l) (hw : w.category = 1) (hw' : w'.category = 1) (k : wp S mi (pc + 1) l (w :: w' :: w :: w' :: st) s Q) : wp S mi pc l (w :: w' :: st) s Q :=
  wp_step hf hp rfl rfl (fun _ => st_A (F := (pc + 1, l, w :: w' :: w :: w' :: st)) (by
    show (if 1 = 1 then (if w.category = 1 ∧ w'.category = 1 then some (pc + 1, l, w :: w' :: w :: w' :: st) else none) else none) = _
    rw [if_pos rfl, if_pos ⟨hw, hw'⟩])) id k
theorem i_iadd (hf : xfetch mi pc = some (.iadd, 1)) (hp : xpr mi pc l = l) (k : wp S mi (pc + 1) l (iv (x + y) :: st) s Q) : wp S mi pc l (iv y :: iv x :: st) s Q :=
  wp_step hf hp rfl rfl (fun _ => st_B (F := (pc + 1, l, iv (x + y) :: st)) rfl (by rw [show iv (x + y) = .int (i32 x + i32 y) from congrArg Value.int (Int32.ofInt_add _ _)]; rfl)) id k
theorem i_isub (hf : xfetch mi pc = some (.isub, 1)) (hp : xpr mi pc l = l) (k : wp S mi (pc + 1) l (iv (x - y) :: st) s Q) : wp S mi pc l (iv y :: iv x :: st) s Q :=
  wp_step hf hp rfl rfl (fun _ => st_B (F := (pc + 1, l, iv (x - y) :: st)) rfl (by rw [show iv (x - y) = .int (i32 x - i32 y) from congrArg Value.int (Int32.ofInt_sub _ _)]; rfl)) id k
theorem i_imul (hf : xfetch mi pc = some (.imul, 1)) (hp : xpr mi pc l = l) (k : wp S mi (pc + 1) l (iv (x * y) :: st) s Q) : wp S mi pc l (iv y :: iv x :: st) s Q :=
  wp_step hf hp rfl rfl (fun _ => st_B (F := (pc + 1, l, iv (x * y) :: st)) rfl (by rw [show iv (x * y) = .int (i32 x * i32 y) from congrArg Value.int (Int32.ofInt_mul _ _)]; rfl)) id k
theorem i_iand (hf : xfetch mi pc = some (.iand, 1)) (hp : xpr mi pc l = l) (k : wp S mi (pc + 1) l (iv (zand x y) :: st) s Q) : wp S mi pc l (iv y :: iv x :: st) s Q :=
  wp_step hf hp rfl rfl (fun _ => st_B (F := (pc + 1, l, iv (zand x y) :: st)) rfl (by unfold zand; rw [show iv _ = Value.int _ from congrArg Value.int (i32_of _)]; rfl)) id k
theorem i_ior (hf : xfetch mi pc = some (.ior, 1)) (hp : xpr mi pc l = l) (k : wp S mi (pc + 1) l (iv (zor x y) :: st) s Q) : wp S mi pc l (iv y :: iv x :: st) s Q :=
  wp_step hf hp rfl rfl (fun _ => st_B (F := (pc + 1, l, iv (zor x y) :: st)) rfl (by unfold zor; rw [show iv _ = Value.int _ from congrArg Value.int (i32_of _)]; rfl)) id k
theorem i_ishl (hf : xfetch mi pc = some (.ishl, 1)) (hp : xpr mi pc l = l) (k : wp S mi (pc + 1) l (iv (zshl x y) :: st) s Q) : wp S mi pc l (iv y :: iv x :: st) s Q :=
  wp_step hf hp rfl rfl (fun _ => st_B (F := (pc + 1, l, iv (zshl x y) :: st)) rfl (by unfold zshl; rw [show iv _ = Value.int _ from congrArg Value.int (i32_of _)]; rfl)) id k
theorem i_ishr (hf : xfetch mi pc = some (.ishr, 1)) (hp : xpr mi pc l = l) (k : wp S mi (pc + 1) l (iv (zshr x y) :: st) s Q) : wp S mi pc l (iv y :: iv x :: st) s Q :=
  wp_step hf hp rfl rfl (fun _ => st_B (F := (pc + 1, l, iv (zshr x y) :: st)) rfl (by unfold zshr; rw [show iv _ = Value.int _ from congrArg Value.int (i32_of _)]; rfl)) id k
theorem i_ineg (hf : xfetch mi pc = some (.ineg, 1)) (hp : xpr mi pc l = l) (k : wp S mi (pc + 1) l (iv (-x) :: st) s Q) : wp S mi pc l (iv x :: st) s Q :=
  wp_step hf hp rfl rfl (fun _ => st_B (F := (pc + 1, l, iv (-x) :: st)) rfl (by rw [show iv (-x) = .int (-i32 x) from congrArg Value.int (Int32.ofInt_neg ..)]; rfl)) id k
theorem i32_div (hx : rng x) (hy : rng y) (h0 : 0 ≤ x) (h1 : 0 < y) : i32 x / i32 y = i32 (x / y) := by
  apply Int32.toInt_inj.mp
  have e : rng (x / y) := ⟨by have := Int.ediv_nonneg h0 (by omega : 0 ≤ y); omega, by have := Int.ediv_le_self y h0; omega⟩
  rw [i32_to _ e, Int32.toInt_div_of_ne_left, i32_to x hx, i32_to y hy, Int.tdiv_eq_ediv_of_nonneg h0]
  intro h
  have h2 := congrArg Int32.toInt h
  rw [i32_to x hx] at h2
  have e1 : Int32.minValue.toInt = -2147483648 := by decide
  omega
theorem i32_ne (hy : rng y) (h1 : 0 < y) : i32 y ≠ 0 := by
  intro h
  have h2 := congrArg Int32.toInt h
  rw [i32_to y hy] at h2
  have e1 : (0 : Int32).toInt = 0 := by decide
  omega
theorem i_idiv (hf : xfetch mi pc = some (.idiv, 1)) (hp : xpr mi pc l = l) (hx : rng x) (hy : rng y) (h0 : 0 ≤ x) (h1 : 0 < y) (k : wp S mi (pc + 1) l (iv (x / y) :: st) s Q) : wp S mi pc l (iv y :: iv x :: st) s Q :=
  wp_step hf hp rfl rfl (fun _ => st_B (F := (pc + 1, l, iv (x / y) :: st)) rfl (by
    show (if 1 = 1 then (if i32 y = 0 then none else some (pc + 1, l, .int (i32 x / i32 y) :: st)) else none) = _
    rw [if_pos rfl, if_neg (i32_ne hy h1), i32_div hx hy h0 h1])) id k
theorem i_irem (hf : xfetch mi pc = some (.irem, 1)) (hp : xpr mi pc l = l) (hx : rng x) (hy : rng y) (h0 : 0 ≤ x) (h1 : 0 < y) (k : wp S mi (pc + 1) l (iv (x % y) :: st) s Q) : wp S mi pc l (iv y :: iv x :: st) s Q :=
  wp_step hf hp rfl rfl (fun _ => st_B (F := (pc + 1, l, iv (x % y) :: st)) rfl (by
    show (if 1 = 1 then (if i32 y = 0 then none else some (pc + 1, l, .int (i32 x - i32 x / i32 y * i32 y) :: st)) else none) = _
    rw [if_pos rfl, if_neg (i32_ne hy h1), i32_div hx hy h0 h1]
    have e : i32 x - i32 (x / y) * i32 y = i32 (x % y) := by
      rw [show i32 (x / y) * i32 y = i32 (x / y * y) from (Int32.ofInt_mul ..).symm, show i32 x - i32 (x / y * y) = i32 (x - x / y * y) from (Int32.ofInt_sub ..).symm]
      congr 1
      have := Int.emod_add_mul_ediv x y
      rw [Int.mul_comm]
      omega
    rw [e])) id k
theorem i_i2l (hf : xfetch mi pc = some (.i2l, 1)) (hp : xpr mi pc l = l) (k : wp S mi (pc + 1) l (.long (zi2l x) :: st) s Q) : wp S mi pc l (iv x :: st) s Q :=
  wp_step hf hp rfl rfl (fun _ => st_B (F := (pc + 1, l, .long (zi2l x) :: st)) rfl (rfl)) id k
theorem i_i2b (hf : xfetch mi pc = some (.i2b, 1)) (hp : xpr mi pc l = l) (k : wp S mi (pc + 1) l (iv (zi2b x) :: st) s Q) : wp S mi pc l (iv x :: st) s Q :=
  wp_step hf hp rfl rfl (fun _ => st_B (F := (pc + 1, l, iv (zi2b x) :: st)) rfl (by unfold zi2b; rw [show iv _ = Value.int _ from congrArg Value.int (i32_of _)]; rfl)) id k
theorem i_i2s (hf : xfetch mi pc = some (.i2s, 1)) (hp : xpr mi pc l = l) (k : wp S mi (pc + 1) l (iv (zi2s x) :: st) s Q) : wp S mi pc l (iv x :: st) s Q :=
  wp_step hf hp rfl rfl (fun _ => st_B (F := (pc + 1, l, iv (zi2s x) :: st)) rfl (by unfold zi2s; rw [show iv _ = Value.int _ from congrArg Value.int (i32_of _)]; rfl)) id k
theorem i_l2i (hf : xfetch mi pc = some (.l2i, 1)) (hp : xpr mi pc l = l) (k : wp S mi (pc + 1) l (iv (zl2i u) :: st) s Q) : wp S mi pc l (.long u :: st) s Q :=
  wp_step hf hp rfl rfl (fun _ => st_B (F := (pc + 1, l, iv (zl2i u) :: st)) rfl (by unfold zl2i; rw [show iv _ = Value.int _ from congrArg Value.int (i32_of _)]; rfl)) id k
theorem i_ladd (hf : xfetch mi pc = some (.ladd, 1)) (hp : xpr mi pc l = l) (k : wp S mi (pc + 1) l (.long (u + v) :: st) s Q) : wp S mi pc l (.long v :: .long u :: st) s Q :=
  wp_step hf hp rfl rfl (fun _ => st_B (F := (pc + 1, l, .long (u + v) :: st)) rfl rfl) id k
theorem i_lsub (hf : xfetch mi pc = some (.lsub, 1)) (hp : xpr mi pc l = l) (k : wp S mi (pc + 1) l (.long (u - v) :: st) s Q) : wp S mi pc l (.long v :: .long u :: st) s Q :=
  wp_step hf hp rfl rfl (fun _ => st_B (F := (pc + 1, l, .long (u - v) :: st)) rfl rfl) id k
theorem i_lmul (hf : xfetch mi pc = some (.lmul, 1)) (hp : xpr mi pc l = l) (k : wp S mi (pc + 1) l (.long (u * v) :: st) s Q) : wp S mi pc l (.long v :: .long u :: st) s Q :=
  wp_step hf hp rfl rfl (fun _ => st_B (F := (pc + 1, l, .long (u * v) :: st)) rfl rfl) id k
theorem i_land (hf : xfetch mi pc = some (.land, 1)) (hp : xpr mi pc l = l) (k : wp S mi (pc + 1) l (.long (u &&& v) :: st) s Q) : wp S mi pc l (.long v :: .long u :: st) s Q :=
  wp_step hf hp rfl rfl (fun _ => st_B (F := (pc + 1, l, .long (u &&& v) :: st)) rfl rfl) id k
theorem i_lor (hf : xfetch mi pc = some (.lor, 1)) (hp : xpr mi pc l = l) (k : wp S mi (pc + 1) l (.long (u ||| v) :: st) s Q) : wp S mi pc l (.long v :: .long u :: st) s Q :=
  wp_step hf hp rfl rfl (fun _ => st_B (F := (pc + 1, l, .long (u ||| v) :: st)) rfl rfl) id k
theorem i_lxor (hf : xfetch mi pc = some (.lxor, 1)) (hp : xpr mi pc l = l) (k : wp S mi (pc + 1) l (.long (u ^^^ v) :: st) s Q) : wp S mi pc l (.long v :: .long u :: st) s Q :=
  wp_step hf hp rfl rfl (fun _ => st_B (F := (pc + 1, l, .long (u ^^^ v) :: st)) rfl rfl) id k
theorem i_lshl (hf : xfetch mi pc = some (.lshl, 1)) (hp : xpr mi pc l = l) (k : wp S mi (pc + 1) l (.long (zshlL u y) :: st) s Q) : wp S mi pc l (iv y :: .long u :: st) s Q :=
  wp_step hf hp rfl rfl (fun _ => st_B (F := (pc + 1, l, .long (zshlL u y) :: st)) rfl rfl) id k
theorem i_lshr (hf : xfetch mi pc = some (.lshr, 1)) (hp : xpr mi pc l = l) (k : wp S mi (pc + 1) l (.long (zshrL u y) :: st) s Q) : wp S mi pc l (iv y :: .long u :: st) s Q :=
  wp_step hf hp rfl rfl (fun _ => st_B (F := (pc + 1, l, .long (zshrL u y) :: st)) rfl rfl) id k
theorem i_lushr (hf : xfetch mi pc = some (.lushr, 1)) (hp : xpr mi pc l = l) (k : wp S mi (pc + 1) l (.long (zushrL u y) :: st) s Q) : wp S mi pc l (iv y :: .long u :: st) s Q :=
  wp_step hf hp rfl rfl (fun _ => st_B (F := (pc + 1, l, .long (zushrL u y) :: st)) rfl rfl) id k
theorem zcmp_i (u v : Int64) : i32 (zcmp u v) = lg_cmp u v := by
  unfold zcmp lg_cmp
  split
  · rfl
  · split <;> rfl
theorem i_lcmp (hf : xfetch mi pc = some (.lcmp, 1)) (hp : xpr mi pc l = l) (k : wp S mi (pc + 1) l (iv (zcmp u v) :: st) s Q) : wp S mi pc l (.long v :: .long u :: st) s Q :=
  wp_step hf hp rfl rfl (fun _ => st_B (F := (pc + 1, l, iv (zcmp u v) :: st)) rfl (by rw [show iv (zcmp u v) = Value.int (lg_cmp u v) from congrArg Value.int (zcmp_i u v)]; rfl)) id k
/-- comparisons -/
theorem T_eq (hx : rng x) (hy : rng y) : (xtest .eq (i32 x) (i32 y) = true → x = y) ∧ (¬ xtest .eq (i32 x) (i32 y) = true → x ≠ y) := by
  have e : xtest .eq (i32 x) (i32 y) = decide (i32 x = i32 y) := rfl
  rw [e, decide_eq_true_iff]
  exact ⟨fun h => by have := congrArg Int32.toInt h; rwa [i32_to x hx, i32_to y hy] at this, fun h g => h (by rw [g])⟩
theorem T_ne (hx : rng x) (hy : rng y) : (xtest .ne (i32 x) (i32 y) = true → x ≠ y) ∧ (¬ xtest .ne (i32 x) (i32 y) = true → x = y) := by
  have e : xtest .ne (i32 x) (i32 y) = decide (i32 x ≠ i32 y) := rfl
  rw [e, decide_eq_true_iff]
  refine ⟨fun h g => h (by rw [g]), fun h => ?_⟩
  have := congrArg Int32.toInt (Decidable.not_not.mp h)
  rwa [i32_to x hx, i32_to y hy] at this
theorem i32_lt (hx : rng x) (hy : rng y) : i32 x < i32 y ↔ x < y := by rw [Int32.lt_iff_toInt_lt, i32_to x hx, i32_to y hy]
theorem i32_le (hx : rng x) (hy : rng y) : i32 x ≤ i32 y ↔ x ≤ y := by rw [Int32.le_iff_toInt_le, i32_to x hx, i32_to y hy]
theorem T_lt (hx : rng x) (hy : rng y) : (xtest .lt (i32 x) (i32 y) = true → x < y) ∧ (¬ xtest .lt (i32 x) (i32 y) = true → y ≤ x) := by
  have e : xtest .lt (i32 x) (i32 y) = decide (i32 x < i32 y) := rfl
  rw [e, decide_eq_true_iff, i32_lt hx hy]
  exact ⟨id, fun h => by omega⟩
theorem T_ge (hx : rng x) (hy : rng y) : (xtest .ge (i32 x) (i32 y) = true → y ≤ x) ∧ (¬ xtest .ge (i32 x) (i32 y) = true → x < y) := by
  have e : xtest .ge (i32 x) (i32 y) = decide (i32 y ≤ i32 x) := rfl
  rw [e, decide_eq_true_iff, i32_le hy hx]
  exact ⟨id, fun h => by omega⟩
theorem T_gt (hx : rng x) (hy : rng y) : (xtest .gt (i32 x) (i32 y) = true → y < x) ∧ (¬ xtest .gt (i32 x) (i32 y) = true → x ≤ y) := by
  have e : xtest .gt (i32 x) (i32 y) = decide (i32 y < i32 x) := rfl
  rw [e, decide_eq_true_iff, i32_lt hy hx]
  exact ⟨id, fun h => by omega⟩
theorem T_le (hx : rng x) (hy : rng y) : (xtest .le (i32 x) (i32 y) = true → x ≤ y) ∧ (¬ xtest .le (i32 x) (i32 y) = true → y < x) := by
  have e : xtest .le (i32 x) (i32 y) = decide (i32 x ≤ i32 y) := rfl
  rw [e, decide_eq_true_iff, i32_le hx hy]
  exact ⟨id, fun h => by omega⟩
theorem i_icmp {c : ClassFile.Cond} {off : Int} {t : Nat} {P P' : Prop} (hf : xfetch mi pc = some (.if_icmp c off, 3)) (hp : xpr mi pc l = l) (hj : (pc : Int) + off = (t : Int)) (hc : (xtest c (i32 x) (i32 y) = true → P) ∧ (¬ xtest c (i32 x) (i32 y) = true → P')) (k1 : P → wp S mi t l st s Q) (k2 : P' → wp S mi (pc + 3) l st s Q) : wp S mi pc l (iv y :: iv x :: st) s Q := by
  have e : ∀ F, (if xtest c (i32 x) (i32 y) = true then some ((t, l, st) : xF3) else some (pc + 3, l, st)) = some F → xstepB (.if_icmp c off) 3 pc l (iv y :: iv x :: st) = some F := fun F hF => by
    show (if 3 = 3 then (if 0 ≤ (pc : Int) + off then (fun t => if xtest c (i32 x) (i32 y) = true then some (t, l, st) else some (pc + 3, l, st) : Nat → Option xF3) ((pc : Int) + off).toNat else none) else none) = _
    rw [if_pos rfl, hj, if_pos (Int.natCast_nonneg t), Int.toNat_natCast]
    exact hF
  by_cases hh : xtest c (i32 x) (i32 y) = true
  · exact wp_step hf hp rfl rfl (fun _ => st_B (F := (t, l, st)) rfl (e _ (if_pos hh))) id (k1 (hc.1 hh))
  · exact wp_step hf hp rfl rfl (fun _ => st_B (F := (pc + 3, l, st)) rfl (e _ (if_neg hh))) id (k2 (hc.2 hh))
theorem i_if {c : ClassFile.Cond} {off : Int} {t : Nat} {P P' : Prop} (hf : xfetch mi pc = some (.ifCond c off, 3)) (hp : xpr mi pc l = l) (hj : (pc : Int) + off = (t : Int)) (hc : (xtest c (i32 x) (i32 0) = true → P) ∧ (¬ xtest c (i32 x) (i32 0) = true → P')) (k1 : P → wp S mi t l st s Q) (k2 : P' → wp S mi (pc + 3) l st s Q) : wp S mi pc l (iv x :: st) s Q := by
  have e : ∀ F, (if xtest c (i32 x) (i32 0) = true then some ((t, l, st) : xF3) else some (pc + 3, l, st)) = some F → xstepB (.ifCond c off) 3 pc l (iv x :: st) = some F := fun F hF => by
    show (if 3 = 3 then (if 0 ≤ (pc : Int) + off then (fun t => if xtest c (i32 x) (i32 0) = true then some (t, l, st) else some (pc + 3, l, st) : Nat → Option xF3) ((pc : Int) + off).toNat else none) else none) = _
    rw [if_pos rfl, hj, if_pos (Int.natCast_nonneg t), Int.toNat_natCast]
    exact hF
  by_cases hh : xtest c (i32 x) (i32 0) = true
  · exact wp_step hf hp rfl rfl (fun _ => st_B (F := (t, l, st)) rfl (e _ (if_pos hh))) id (k1 (hc.1 hh))
  · exact wp_step hf hp rfl rfl (fun _ => st_B (F := (pc + 3, l, st)) rfl (e _ (if_neg hh))) id (k2 (hc.2 hh))
theorem i_goto {off : Int} {t : Nat} (hf : xfetch mi pc = some (.goto off, 3)) (hp : xpr mi pc l = l) (hj : (pc : Int) + off = (t : Int)) (k : wp S mi t l st s Q) : wp S mi pc l st s Q :=
  wp_step hf hp rfl rfl (fun _ => st_B (F := (t, l, st)) rfl (by
    show (if 3 = 3 then (if 0 ≤ (pc : Int) + off then (fun t => some (t, l, st) : Nat → Option xF3) ((pc : Int) + off).toNat else none) else none) = _
    rw [if_pos rfl, hj, if_pos (Int.natCast_nonneg t), Int.toNat_natCast])) id k
end OPL
