/-! ===== bytes of a value ===== -/
def bAt (a n ord k : Int) : Int := if ord = 0 then a + n - 1 - k else a + k
def rawN (D : Int → Int) (a n ord : Int) : Nat → Int64
  | 0 => 0
  | k + 1 => zshlL (rawN D a n ord k) 8 ||| zi2l (D (175 + bAt a n ord k))
def rawV (D : Int → Int) (a n ord : Int) : Int64 := rawN D a n ord n.toNat
def pAt (a n ord k : Int) : Int := if ord = 0 then a + k else a + n - 1 - k
def putN (D : Int → Int) (a n ord : Int) (v : Int64) : Nat → Int → Int
  | 0 => D
  | k + 1 => fun j => if j = 175 + pAt a n ord k then zl2i (zshrL v (8 * (k : Int)) &&& 255) else putN D a n ord v k j
def putV (D : Int → Int) (a n ord : Int) (v : Int64) : Int → Int := putN D a n ord v n.toNat
/-- the value of a leaf that is read, and what is stored for a value -/
def valO (ty bit : Int) (raw : Int64) : Int64 :=
  if 21 ≤ ty ∧ ty ≤ 36 then zshrL raw bit &&& (zshlL 1 (ty - 20) - 1)
  else if ty = 0 then zi2l (zi2b (zl2i raw)) else if ty = 2 then zi2l (zi2s (zl2i raw)) else if ty = 4 then zi2l (zl2i raw) else if ty = 7 then (if raw = 0 then 0 else 1) else raw
def stoO (ty bit : Int) (old v : Int64) : Int64 :=
  if 21 ≤ ty ∧ ty ≤ 36 then (old &&& (zshlL (zshlL 1 (ty - 20) - 1) bit ^^^ (-1))) ||| (zshlL v bit &&& zshlL (zshlL 1 (ty - 20) - 1) bit)
  else if ty = 7 then (if v = 0 then 0 else 1) else v
/-- the bytes of the row -/
def okB (D : Int → Int) : Prop := ∀ j, 0 ≤ j → j < 1024 → 0 ≤ D (175 + j) ∧ D (175 + j) ≤ 255
theorem putN_out {D : Int → Int} {a n ord : Int} {v : Int64} {j : Int} : ∀ k : Nat, (k : Int) ≤ n → (j < 175 + a ∨ 175 + a + n ≤ j) → putN D a n ord v k j = D j := by
  intro k
  induction k with
  | zero => intro _ _; rfl
  | succ k ihk =>
    intro hk hj
    show (if j = 175 + pAt a n ord k then _ else putN D a n ord v k j) = _
    rw [if_neg ?_, ihk (by omega) hj]
    unfold pAt
    split <;> omega
theorem putV_out {D : Int → Int} {a n ord : Int} {v : Int64} {j : Int} (hn : 0 ≤ n) (hj : j < 175 + a ∨ 175 + a + n ≤ j) : putV D a n ord v j = D j := putN_out n.toNat (by omega) hj
theorem putN_okB {D : Int → Int} {a n ord : Int} {v : Int64} (h : okB D) : ∀ k : Nat, okB (putN D a n ord v k) := by
  intro k
  induction k with
  | zero => exact h
  | succ k ihk =>
    intro j q0 q1
    show 0 ≤ (if 175 + j = 175 + pAt a n ord k then _ else putN D a n ord v k (175 + j)) ∧ (if 175 + j = 175 + pAt a n ord k then _ else putN D a n ord v k (175 + j)) ≤ 255
    split
    · rw [z255]; omega
    · exact ihk j q0 q1
