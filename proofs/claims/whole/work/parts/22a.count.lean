/-! ===== how many; the bits of a number counted ===== -/
def ctN (p : Nat → Bool) : Nat → Nat
  | 0 => 0
  | n + 1 => ctN p n + (if p n then 1 else 0)
theorem ctN_s (p : Nat → Bool) (n : Nat) : ctN p (n + 1) = ctN p n + (if p n then 1 else 0) := rfl
theorem ctN_le (p : Nat → Bool) : ∀ n : Nat, ctN p n ≤ n := by
  intro n
  induction n with
  | zero => exact Nat.le_refl _
  | succ n ihn =>
    rw [ctN_s]
    split <;> omega
theorem ctN_cong {p q : Nat → Bool} : ∀ n : Nat, (∀ k, k < n → p k = q k) → ctN p n = ctN q n := by
  intro n
  induction n with
  | zero => intro _; rfl
  | succ n ihn =>
    intro h
    rw [ctN_s, ctN_s, ihn (fun k hk => h k (by omega)), h n (by omega)]
theorem ctN_add (p : Nat → Bool) (m : Nat) : ∀ n : Nat, ctN p (m + n) = ctN p m + ctN (fun k => p (m + k)) n := by
  intro n
  induction n with
  | zero => rfl
  | succ n ihn =>
    show ctN p (m + n + 1) = _
    rw [ctN_s, ctN_s, ihn, Nat.add_assoc]
theorem ctN_0 {p : Nat → Bool} : ∀ n : Nat, (∀ k, k < n → p k = false) → ctN p n = 0 := by
  intro n
  induction n with
  | zero => intro _; rfl
  | succ n ihn =>
    intro h
    rw [ctN_s, ihn (fun k hk => h k (by omega)), h n (by omega)]
    rfl
/-! a number by its bytes -/
def bmN (g : Nat → Nat) : Nat → Nat → Nat
  | 0, _ => 0
  | n + 1, x => g (x % 256) + 256 * bmN g n (x / 256)
def mkN (c : Nat) : Nat → Nat
  | 0 => 0
  | n + 1 => c + 256 * mkN c n
theorem bmN_s (g : Nat → Nat) (n x : Nat) : bmN g (n + 1) x = g (x % 256) + 256 * bmN g n (x / 256) := rfl
theorem mkN_s (c n : Nat) : mkN c (n + 1) = c + 256 * mkN c n := rfl
theorem and_256 {a c A C : Nat} (ha : a < 256) (hc : c < 256) : (a + 256 * A) &&& (c + 256 * C) = (a &&& c) + 256 * (A &&& C) := by
  have h : (a &&& c) < 2 ^ 8 := Nat.lt_of_le_of_lt Nat.and_le_left ha
  apply Nat.eq_of_testBit_eq
  intro j
  rw [Nat.testBit_and, show a + 256 * A = 2 ^ 8 * A + a by omega, show c + 256 * C = 2 ^ 8 * C + c by omega, show (a &&& c) + 256 * (A &&& C) = 2 ^ 8 * (A &&& C) + (a &&& c) by omega, Nat.testBit_two_pow_mul_add A (show a < 2 ^ 8 from ha) j, Nat.testBit_two_pow_mul_add C (show c < 2 ^ 8 from hc) j, Nat.testBit_two_pow_mul_add (A &&& C) h j]
  by_cases hj : j < 8
  · simp only [if_pos hj, Nat.testBit_and]
  · simp only [if_neg hj, Nat.testBit_and]
theorem p_1 : ∀ n x : Nat, x < 256 ^ n → x - ((x / 2) &&& mkN 85 n) = bmN (fun b => b - ((b / 2) &&& 85)) n x := by
  have hd : ∀ b, b < 256 → ∀ e, e < 2 → ((b / 2 + 128 * e) &&& 85) = (b / 2) &&& 85 := by decide +kernel
  intro n
  induction n with
  | zero => intro x h; rw [Nat.pow_zero] at h; show x - _ = 0; omega
  | succ n ihn =>
    intro x h
    have hx : x / 256 < 256 ^ n := by rw [Nat.pow_succ] at h; exact Nat.div_lt_of_lt_mul (by rw [Nat.mul_comm]; exact h)
    rw [bmN_s, ← ihn _ hx, mkN_s]
    have e1 : x / 2 = (x % 256 / 2 + 128 * (x / 256 % 2)) + 256 * (x / 256 / 2) := by omega
    have hlt : x % 256 / 2 + 128 * (x / 256 % 2) < 256 := by omega
    have e2 : (x / 2) &&& (85 + 256 * mkN 85 n) = ((x % 256 / 2) &&& 85) + 256 * ((x / 256 / 2) &&& mkN 85 n) := by
      conv => lhs; rw [e1]
      rw [and_256 hlt (by decide), hd _ (Nat.mod_lt _ (by decide)) _ (Nat.mod_lt _ (by decide))]
    have l1 : ((x % 256 / 2) &&& 85) ≤ x % 256 / 2 := Nat.and_le_left
    have l2 : ((x / 256 / 2) &&& mkN 85 n) ≤ x / 256 / 2 := Nat.and_le_left
    rw [e2]
    show _ = (x % 256 - ((x % 256 / 2) &&& 85)) + _
    omega
theorem p_2 : ∀ n x : Nat, x < 256 ^ n → (x &&& mkN 51 n) + ((x / 4) &&& mkN 51 n) = bmN (fun b => (b &&& 51) + ((b / 4) &&& 51)) n x := by
  have hd : ∀ b, b < 256 → ∀ e, e < 4 → ((b / 4 + 64 * e) &&& 51) = (b / 4) &&& 51 := by decide +kernel
  intro n
  induction n with
  | zero => intro x h; rw [Nat.pow_zero] at h; rw [show x = 0 by omega]; rfl
  | succ n ihn =>
    intro x h
    have hx : x / 256 < 256 ^ n := by rw [Nat.pow_succ] at h; exact Nat.div_lt_of_lt_mul (by rw [Nat.mul_comm]; exact h)
    rw [bmN_s, ← ihn _ hx, mkN_s]
    have e0 : x = x % 256 + 256 * (x / 256) := by omega
    have e1 : x / 4 = (x % 256 / 4 + 64 * (x / 256 % 4)) + 256 * (x / 256 / 4) := by omega
    have hlt : x % 256 / 4 + 64 * (x / 256 % 4) < 256 := by omega
    have e2 : (x / 4) &&& (51 + 256 * mkN 51 n) = ((x % 256 / 4) &&& 51) + 256 * ((x / 256 / 4) &&& mkN 51 n) := by
      conv => lhs; rw [e1]
      rw [and_256 hlt (by decide), hd _ (Nat.mod_lt _ (by decide)) _ (Nat.mod_lt _ (by decide))]
    have e3 : x &&& (51 + 256 * mkN 51 n) = (x % 256 &&& 51) + 256 * ((x / 256) &&& mkN 51 n) := by
      conv => lhs; rw [e0]
      rw [and_256 (Nat.mod_lt _ (by decide)) (by decide)]
    rw [e2, e3]
    show _ = ((x % 256 &&& 51) + ((x % 256 / 4) &&& 51)) + _
    omega
theorem bmN_low {h : Nat → Nat} (hh : ∀ b, b < 256 → h b % 16 ≤ 4 ∧ h b / 16 ≤ 4) : ∀ n x : Nat, bmN h n x % 16 ≤ 4 := by
  intro n x
  cases n with
  | zero => show 0 % 16 ≤ 4; decide
  | succ n =>
    have h1 := hh (x % 256) (Nat.mod_lt _ (by decide))
    rw [bmN_s]
    omega
theorem p_3 {h : Nat → Nat} (hh : ∀ b, b < 256 → h b % 16 ≤ 4 ∧ h b / 16 ≤ 4) : ∀ n x : Nat, (bmN h n x + bmN h n x / 16) &&& mkN 15 n = bmN (fun b => (h b + h b / 16) % 16) n x := by
  intro n
  induction n with
  | zero => intro x; show (0 + 0 / 16) &&& 0 = 0; decide
  | succ n ihn =>
    intro x
    have h1 := hh (x % 256) (Nat.mod_lt _ (by decide))
    have h2 := bmN_low hh n (x / 256)
    rw [bmN_s, bmN_s, ← ihn, mkN_s]
    generalize h (x % 256) = b at h1 ⊢
    generalize bmN h n (x / 256) = Y at h2 ⊢
    have e1 : b + 256 * Y + (b + 256 * Y) / 16 = (b + b / 16 + 16 * (Y % 16)) + 256 * (Y + Y / 16) := by omega
    have h15 : (b + b / 16 + 16 * (Y % 16)) &&& 15 = (b + b / 16 + 16 * (Y % 16)) % 16 := Nat.and_two_pow_sub_one_eq_mod _ 4
    rw [e1, and_256 (by omega) (by decide), h15]
    omega
theorem bmN_comp {f g : Nat → Nat} (hg : ∀ b, b < 256 → g b < 256) : ∀ n x : Nat, bmN f n (bmN g n x) = bmN (fun b => f (g b)) n x := by
  intro n
  induction n with
  | zero => intro x; rfl
  | succ n ihn =>
    intro x
    have h1 := hg (x % 256) (Nat.mod_lt _ (by decide))
    rw [bmN_s, bmN_s, bmN_s, ← ihn, show (g (x % 256) + 256 * bmN g n (x / 256)) % 256 = g (x % 256) by omega, show (g (x % 256) + 256 * bmN g n (x / 256)) / 256 = bmN g n (x / 256) by omega]
theorem bmN_lt {g : Nat → Nat} (hg : ∀ b, b < 256 → g b < 256) : ∀ n x : Nat, bmN g n x < 256 ^ n := by
  intro n
  induction n with
  | zero => intro x; show 0 < 256 ^ 0; decide
  | succ n ihn =>
    intro x
    have h1 := hg (x % 256) (Nat.mod_lt _ (by decide))
    have h2 := ihn (x / 256)
    rw [bmN_s, Nat.pow_succ]
    omega
def b1N (b : Nat) : Nat := b - ((b / 2) &&& 85)
def b2N (b : Nat) : Nat := (b1N b &&& 51) + ((b1N b / 4) &&& 51)
def b3N (b : Nat) : Nat := (b2N b + b2N b / 16) % 16
def smN : Nat → Nat → Nat
  | 0, _ => 0
  | n + 1, x => b3N (x % 256) + smN n (x / 256)
theorem b3_tab : ∀ b, b < 256 → (b1N b < 256 ∧ b2N b % 16 ≤ 4 ∧ b2N b / 16 ≤ 4 ∧ b3N b ≤ 8) ∧ ctN (fun j => Nat.testBit b j) 8 = b3N b := by decide +kernel
theorem ct_bytes : ∀ n x : Nat, ctN (fun j => Nat.testBit x j) (8 * n) = smN n x := by
  intro n
  induction n with
  | zero => intro x; rfl
  | succ n ihn =>
    intro x
    rw [show 8 * (n + 1) = 8 + 8 * n by omega, ctN_add]
    show _ = b3N (x % 256) + smN n (x / 256)
    rw [← ihn, ← (b3_tab (x % 256) (Nat.mod_lt _ (by decide))).2]
    congr 1
    · refine ctN_cong 8 fun k hk => ?_
      show Nat.testBit x k = Nat.testBit (x % 2 ^ 8) k
      rw [Nat.testBit_mod_two_pow, decide_eq_true hk, Bool.true_and]
    · refine ctN_cong _ fun k _ => ?_
      show Nat.testBit x (8 + k) = Nat.testBit (x / 2 ^ 8) k
      rw [Nat.testBit_div_two_pow, Nat.add_comm]
theorem divq {a lo hi m : Nat} (h : a = lo + m * hi) (hl : lo < m) : a / m = hi := by
  subst h
  rw [Nat.add_mul_div_left _ _ (by omega), Nat.div_eq_of_lt hl, Nat.zero_add]
/-- the number of bits, as the machine counts it -/
theorem cnt_N {x y1 y2 y3 y4 y5 y6 : Nat} (hx : x < 256 ^ 8) (h1 : y1 = x - ((x / 2) &&& mkN 85 8)) (h2 : y2 = (y1 &&& mkN 51 8) + ((y1 / 4) &&& mkN 51 8)) (h3 : y3 = (y2 + y2 / 16) &&& mkN 15 8) (h4 : y4 = y3 + y3 / 256) (h5 : y5 = y4 + y4 / 65536) (h6 : y6 = y5 + y5 / 4294967296) :
    y6 % 128 = ctN (fun j => Nat.testBit x j) 64 ∧ y2 + y2 / 16 < 18446744073709551616 ∧ y4 < 18446744073709551616 ∧ y5 < 18446744073709551616 ∧ y6 < 18446744073709551616 := by
  have q1 : y1 = bmN b1N 8 x := by rw [h1]; exact p_1 8 x hx
  have q2 : y2 = bmN b2N 8 x := by
    rw [h2, q1, p_2 8 _ (bmN_lt (fun b hb => (b3_tab b hb).1.1) 8 x), bmN_comp (fun b hb => (b3_tab b hb).1.1)]
    rfl
  have q3 : y3 = bmN b3N 8 x := by
    rw [h3, q2, p_3 (fun b hb => ⟨(b3_tab b hb).1.2.1, (b3_tab b hb).1.2.2.1⟩)]
    rfl
  have q2b : y2 < 256 ^ 8 := by rw [q2]; exact bmN_lt (fun b hb => by have := (b3_tab b hb).1; omega) 8 x
  have hs := ct_bytes 8 x
  rw [show 8 * 8 = 64 by decide] at hs
  rw [hs]
  have c0 := (b3_tab (x % 256) (Nat.mod_lt _ (by decide))).1.2.2.2
  have c1 := (b3_tab (x / 256 % 256) (Nat.mod_lt _ (by decide))).1.2.2.2
  have c2 := (b3_tab (x / 256 / 256 % 256) (Nat.mod_lt _ (by decide))).1.2.2.2
  have c3 := (b3_tab (x / 256 / 256 / 256 % 256) (Nat.mod_lt _ (by decide))).1.2.2.2
  have c4 := (b3_tab (x / 256 / 256 / 256 / 256 % 256) (Nat.mod_lt _ (by decide))).1.2.2.2
  have c5 := (b3_tab (x / 256 / 256 / 256 / 256 / 256 % 256) (Nat.mod_lt _ (by decide))).1.2.2.2
  have c6 := (b3_tab (x / 256 / 256 / 256 / 256 / 256 / 256 % 256) (Nat.mod_lt _ (by decide))).1.2.2.2
  have c7 := (b3_tab (x / 256 / 256 / 256 / 256 / 256 / 256 / 256 % 256) (Nat.mod_lt _ (by decide))).1.2.2.2
  have e3 : y3 = b3N (x % 256) + 256 * (b3N (x / 256 % 256) + 256 * (b3N (x / 256 / 256 % 256) + 256 * (b3N (x / 256 / 256 / 256 % 256) + 256 * (b3N (x / 256 / 256 / 256 / 256 % 256) + 256 * (b3N (x / 256 / 256 / 256 / 256 / 256 % 256) + 256 * (b3N (x / 256 / 256 / 256 / 256 / 256 / 256 % 256) + 256 * (b3N (x / 256 / 256 / 256 / 256 / 256 / 256 / 256 % 256) + 256 * 0))))))) := q3
  have es : smN 8 x = b3N (x % 256) + (b3N (x / 256 % 256) + (b3N (x / 256 / 256 % 256) + (b3N (x / 256 / 256 / 256 % 256) + (b3N (x / 256 / 256 / 256 / 256 % 256) + (b3N (x / 256 / 256 / 256 / 256 / 256 % 256) + (b3N (x / 256 / 256 / 256 / 256 / 256 / 256 % 256) + (b3N (x / 256 / 256 / 256 / 256 / 256 / 256 / 256 % 256) + 0))))))) := rfl
  rw [es]
  rw [show (256 : Nat) ^ 8 = 18446744073709551616 by decide] at q2b hx
  generalize b3N (x % 256) = d0 at c0 e3 ⊢
  generalize b3N (x / 256 % 256) = d1 at c1 e3 ⊢
  generalize b3N (x / 256 / 256 % 256) = d2 at c2 e3 ⊢
  generalize b3N (x / 256 / 256 / 256 % 256) = d3 at c3 e3 ⊢
  generalize b3N (x / 256 / 256 / 256 / 256 % 256) = d4 at c4 e3 ⊢
  generalize b3N (x / 256 / 256 / 256 / 256 / 256 % 256) = d5 at c5 e3 ⊢
  generalize b3N (x / 256 / 256 / 256 / 256 / 256 / 256 % 256) = d6 at c6 e3 ⊢
  generalize b3N (x / 256 / 256 / 256 / 256 / 256 / 256 / 256 % 256) = d7 at c7 e3 ⊢
  have e4 : y4 = (d0 + d1) + 256 * ((d1 + d2) + 256 * ((d2 + d3) + 256 * ((d3 + d4) + 256 * ((d4 + d5) + 256 * ((d5 + d6) + 256 * ((d6 + d7) + 256 * d7)))))) := by omega
  have e5 : y5 = (d0 + d1 + d2 + d3) + 256 * ((d1 + d2 + d3 + d4) + 256 * ((d2 + d3 + d4 + d5) + 256 * ((d3 + d4 + d5 + d6) + 256 * ((d4 + d5 + d6 + d7) + 256 * ((d5 + d6 + d7) + 256 * ((d6 + d7) + 256 * d7)))))) := by omega
  have q22 : y2 + y2 / 16 < 18446744073709551616 := by
    have hb2 : ∀ (n z : Nat), bmN b2N (n + 1) z < 69 * 256 ^ n := by
      intro n
      induction n with
      | zero =>
        intro z
        have := (b3_tab (z % 256) (Nat.mod_lt _ (by decide))).1
        show b2N (z % 256) + 256 * 0 < 69 * 256 ^ 0
        rw [Nat.pow_zero]
        omega
      | succ n ihn =>
        intro z
        have := (b3_tab (z % 256) (Nat.mod_lt _ (by decide))).1
        have h2 := ihn (z / 256)
        show b2N (z % 256) + 256 * bmN b2N (n + 1) (z / 256) < 69 * 256 ^ (n + 1)
        rw [Nat.pow_succ]
        omega
    have h7 : bmN b2N 8 x < 69 * 256 ^ 7 := hb2 7 x
    rw [show (69 : Nat) * 256 ^ 7 = 69 * 72057594037927936 by decide] at h7
    rw [q2]
    omega
  have e5d : y5 / 4294967296 = (d4 + d5 + d6 + d7) + 256 * ((d5 + d6 + d7) + 256 * ((d6 + d7) + 256 * d7)) :=
    divq (lo := (d0 + d1 + d2 + d3) + 256 * ((d1 + d2 + d3 + d4) + 256 * ((d2 + d3 + d4 + d5) + 256 * (d3 + d4 + d5 + d6)))) (by omega) (by omega)
  have e6 : y6 = (d0 + d1 + d2 + d3 + d4 + d5 + d6 + d7) + 128 * (2 * ((d1 + d2 + d3 + d4 + d5 + d6 + d7) + 256 * ((d2 + d3 + d4 + d5 + d6 + d7) + 256 * ((d3 + d4 + d5 + d6 + d7) + 256 * ((d4 + d5 + d6 + d7) + 256 * ((d5 + d6 + d7) + 256 * ((d6 + d7) + 256 * d7))))))) := by
    rw [h6, e5d, e5]
    omega
  refine ⟨?_, q22, ?_, ?_, ?_⟩
  · rw [e6, Nat.add_mul_mod_self_left, Nat.mod_eq_of_lt (by omega)]
    omega
  · omega
  · omega
  · omega
/-! the same of an Int64 -/
def uN (x : Int64) : Nat := x.toBitVec.toNat
theorem uN_lt (x : Int64) : uN x < 18446744073709551616 := x.toBitVec.isLt
theorem uN_inj {x y : Int64} (h : uN x = uN y) : x = y := Int64.toBitVec_inj.mp (BitVec.eq_of_toNat_eq h)
theorem uN_add (x y : Int64) : uN (x + y) = (uN x + uN y) % 18446744073709551616 := by
  unfold uN; rw [Int64.toBitVec_add]; exact BitVec.toNat_add _ _
theorem uN_sub (x y : Int64) : uN (x - y) = (18446744073709551616 - uN y + uN x) % 18446744073709551616 := by
  unfold uN; rw [Int64.toBitVec_sub]; exact BitVec.toNat_sub _ _
theorem uN_and (x y : Int64) : uN (x &&& y) = uN x &&& uN y := by
  unfold uN; rw [Int64.toBitVec_and]; exact BitVec.toNat_and _ _
theorem ush_sh (k : Fin 64) : ((Int32.ofInt ((k : Nat) : Int)).toInt64.toUInt64 &&& Int64.toUInt64 63).toNat % 64 = (k : Nat) := by
  have h1 : ∀ k : Fin 64, ((Int32.ofInt ((k : Nat) : Int)).toInt64.toUInt64 &&& Int64.toUInt64 63).toNat % 64 = (k : Nat) := by decide +kernel
  exact h1 k
theorem uN_ush {x : Int64} {k : Nat} (hk : k < 64) : uN (zushrL x k) = uN x / 2 ^ k := by
  have h := ush_sh ⟨k, hk⟩
  dsimp only at h
  show (x.toUInt64 >>> _).toNat = _
  rw [UInt64.toNat_shiftRight, Nat.shiftRight_eq_div_pow, h]
  rfl
theorem lb_uN (x : Int64) (j : Nat) : lb x j = Nat.testBit (uN x) j := rfl
theorem z127 (w : Int64) : zand (zl2i w) 127 = ((uN w % 128 : Nat) : Int) := by
  have h1 : uN (w &&& 127) = uN w % 128 := by
    rw [uN_and]
    exact Nat.and_two_pow_sub_one_eq_mod _ 7
  have h2 : (w &&& 127).toInt = ((uN w % 128 : Nat) : Int) := i64_nat h1 (by omega)
  have h3 : zand (zl2i w) 127 = zl2i (w &&& 127) := by
    unfold zand zl2i
    rw [i32_of, Int64.toInt32_and]
    rfl
  rw [h3]
  unfold zl2i
  rw [Int64.toInt_toInt32, h2]
  unfold Int.bmod
  simp only
  split <;> omega
theorem bitCount_eq (u : Int64) {a b c d e f : Int64} (ha : a = u - (zushrL u 1 &&& 6148914691236517205)) (hb : b = (a &&& 3689348814741910323) + (zushrL a 2 &&& 3689348814741910323)) (hc : c = (b + zushrL b 4) &&& 1085102592571150095) (hd : d = c + zushrL c 8) (he : e = d + zushrL d 16) (hf : f = e + zushrL e 32) :
    zand (zl2i f) 127 = ((ctN (lb u) 64 : Nat) : Int) := by
  have hu := uN_lt u
  have m1 : uN 6148914691236517205 = mkN 85 8 := by decide +kernel
  have m2 : uN 3689348814741910323 = mkN 51 8 := by decide +kernel
  have m3 : uN 1085102592571150095 = mkN 15 8 := by decide +kernel
  have sh : ∀ (x : Int64) (k : Nat), k < 64 → uN (zushrL x (k : Int)) = uN x / 2 ^ k := fun x k hk => uN_ush hk
  have e1 : uN a = uN u - ((uN u / 2) &&& mkN 85 8) := by
    have hl : ((uN u / 2) &&& mkN 85 8) ≤ uN u / 2 := Nat.and_le_left
    rw [ha, uN_sub, uN_and, m1, show uN (zushrL u 1) = uN u / 2 from sh u 1 (by decide)]
    omega
  have h2l := uN_lt a
  have e2r : uN b = ((uN a &&& mkN 51 8) + ((uN a / 4) &&& mkN 51 8)) % 18446744073709551616 := by
    rw [hb, uN_add, uN_and, uN_and, m2, show uN (zushrL a 2) = uN a / 4 from sh a 2 (by decide)]
  have b2 : (uN a &&& mkN 51 8) ≤ mkN 51 8 ∧ ((uN a / 4) &&& mkN 51 8) ≤ mkN 51 8 := ⟨Nat.and_le_right, Nat.and_le_right⟩
  have m51 : mkN 51 8 = 3689348814741910323 := by decide +kernel
  have e2 : uN b = (uN a &&& mkN 51 8) + ((uN a / 4) &&& mkN 51 8) := by
    rw [e2r]
    rw [m51] at b2 ⊢
    omega
  obtain ⟨r1, r2, r4, r5, r6⟩ := cnt_N (x := uN u) (by rw [show (256 : Nat) ^ 8 = 18446744073709551616 by decide]; exact hu) e1 e2 rfl rfl rfl rfl
  have e3 : uN c = (uN b + uN b / 16) &&& mkN 15 8 := by
    rw [hc, uN_and, uN_add, m3, show uN (zushrL b 4) = uN b / 16 from sh b 4 (by decide), Nat.mod_eq_of_lt r2]
  rw [← e3] at r1 r4 r5 r6
  have e4 : uN d = uN c + uN c / 256 := by
    rw [hd, uN_add, show uN (zushrL c 8) = uN c / 256 from sh c 8 (by decide), Nat.mod_eq_of_lt r4]
  rw [← e4] at r1 r5 r6
  have e5 : uN e = uN d + uN d / 65536 := by
    rw [he, uN_add, show uN (zushrL d 16) = uN d / 65536 from sh d 16 (by decide), Nat.mod_eq_of_lt r5]
  rw [← e5] at r1 r6
  have e6 : uN f = uN e + uN e / 4294967296 := by
    rw [hf, uN_add, show uN (zushrL e 32) = uN e / 4294967296 from sh e 32 (by decide), Nat.mod_eq_of_lt r6]
  rw [z127, e6, r1]
  rfl
theorem C_bitCount {S : Option (Nat × (Nat → Int32))} {Q : Option Value ⊕ Nat → zSt → Prop} {s : zSt} {u : Int64} (k1 : Q (rI ((ctN (lb u) 64 : Nat) : Int)) s) : wp S 168 0 [(0, .long u)] [] s Q :=
  v_Long_bitCount_0 (by rw [bitCount_eq u rfl rfl rfl rfl rfl rfl]; exact k1)
