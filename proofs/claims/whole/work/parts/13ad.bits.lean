/-! ===== bits and bytes ===== -/
theorem i64_nat {x : Int64} {n : Nat} (h : x.toBitVec.toNat = n) (hn : n < 2 ^ 63) : x.toInt = (n : Int) := by
  show x.toBitVec.toInt = _
  rw [BitVec.toInt_eq_toNat_cond, h, if_pos (by omega)]
theorem i64_ofnat {x : Int64} (h : 0 ≤ x.toInt) : (x.toBitVec.toNat : Int) = x.toInt := by
  have h1 : x.toInt = x.toBitVec.toInt := rfl
  rw [h1] at h ⊢
  rw [BitVec.toInt_eq_toNat_cond] at h ⊢
  have h2 := x.toBitVec.isLt
  split at h <;> split <;> omega
theorem zi2l_toInt {b : Int} (h : rng b) : (zi2l b).toInt = b := by
  unfold zi2l
  rw [Int32.toInt_toInt64, i32_to b h]
theorem zand_255 {x : Int} (h : -128 ≤ x ∧ x ≤ 127) : zand x 255 = x % 256 := by
  have h1 : ∀ k : Fin 256, (Int32.ofInt (((k : Nat) : Int) - 128) &&& Int32.ofInt 255).toInt = (((k : Nat) : Int) - 128) % 256 := by decide +kernel
  have h2 := h1 ⟨(x + 128).toNat, by omega⟩
  have h3 : (((x + 128).toNat : Nat) : Int) - 128 = x := by omega
  dsimp only at h2
  rw [h3] at h2
  exact h2
theorem z255 (w : Int64) : zl2i (w &&& 255) = w.toInt % 256 := by
  have h1 : (w &&& 255).toBitVec.toNat = w.toBitVec.toNat % 256 := by
    rw [Int64.toBitVec_and, BitVec.toNat_and]
    show w.toBitVec.toNat &&& 255 = _
    exact Nat.and_two_pow_sub_one_eq_mod _ 8
  have h2 : (w &&& 255).toInt = ((w.toBitVec.toNat % 256 : Nat) : Int) := i64_nat h1 (by omega)
  have h3 : w.toInt % 256 = ((w.toBitVec.toNat % 256 : Nat) : Int) := by
    show w.toBitVec.toInt % 256 = _
    rw [BitVec.toInt_eq_toNat_cond]
    split <;> omega
  unfold zl2i
  rw [Int64.toInt_toInt32, h2, h3]
  unfold Int.bmod
  simp only
  split <;> omega
theorem zi2b_eq {z : Int} (h : rng z) : zi2b z = z.bmod 256 := by
  unfold zi2b
  rw [Int8.toInt_toInt32, Int32.toInt_toInt8, i32_to z h]
theorem zi2b_b (z : Int) : -128 ≤ zi2b z ∧ zi2b z ≤ 127 := by
  unfold zi2b
  rw [Int8.toInt_toInt32, Int32.toInt_toInt8]
  unfold Int.bmod
  simp only
  split <;> omega
theorem zl2i_rng (w : Int64) : rng (zl2i w) := rng_to _
theorem byte_eq (w : Int64) : zi2b (zi2b (zl2i w)) % 256 = zl2i (w &&& 255) ∧ -128 ≤ zi2b (zi2b (zl2i w)) ∧ zi2b (zi2b (zl2i w)) ≤ 127 := by
  have h0 := zi2b_b (zl2i w)
  refine ⟨?_, zi2b_b _⟩
  rw [zi2b_eq ⟨by omega, by omega⟩, zi2b_eq (zl2i_rng w), z255]
  unfold zl2i
  rw [Int64.toInt_toInt32]
  unfold Int.bmod
  simp only
  repeat' split
  all_goals omega
theorem zshl8_or {x : Int64} {b : Int} (hx : 0 ≤ x.toInt ∧ x.toInt < 2 ^ 48) (hb : 0 ≤ b ∧ b < 256) : (zshlL x 8 ||| zi2l b).toInt = x.toInt * 256 + b := by
  have h1 := i64_ofnat hx.1
  have h2 : (zi2l b).toInt = b := zi2l_toInt ⟨by omega, by omega⟩
  have h3 := i64_ofnat (x := zi2l b) (by omega)
  have h4 : (zshlL x 8).toBitVec.toNat = x.toBitVec.toNat <<< 8 := by
    unfold zshlL
    rw [show (i32 8).toInt64 &&& 63 = 8 by decide, Int64.toBitVec_shiftLeft]
    show (x.toBitVec <<< (8#64)).toNat = _
    rw [BitVec.shiftLeft_eq', BitVec.toNat_shiftLeft]
    show x.toBitVec.toNat <<< 8 % 2 ^ 64 = _
    rw [Nat.shiftLeft_eq, Nat.mod_eq_of_lt (by omega)]
  have h5 : (zshlL x 8 ||| zi2l b).toBitVec.toNat = x.toBitVec.toNat <<< 8 + (zi2l b).toBitVec.toNat := by
    rw [Int64.toBitVec_or, BitVec.toNat_or, h4, Nat.shiftLeft_add_eq_or_of_lt (by omega)]
  have h6 := i64_nat h5 (by rw [Nat.shiftLeft_eq]; omega)
  rw [h6, Nat.shiftLeft_eq]
  omega
/-- a shift to the right of what is not below 0 -/
theorem zushr_eq {x : Int64} {b : Int} (hx : 0 ≤ x.toInt) (hb : 0 ≤ b ∧ b < 32) : zushrL x b = zshrL x b := by
  unfold zushrL zshrL
  have h1 : ∀ k : Fin 32, (Int32.ofInt ((k : Nat) : Int)).toInt64 &&& 63 = Int64.ofNat k ∧ ((Int32.ofInt ((k : Nat) : Int)).toInt64.toUInt64 &&& Int64.toUInt64 63) = UInt64.ofNat k := by decide +kernel
  have h2 := h1 ⟨b.toNat, by omega⟩
  dsimp only at h2
  rw [Int.toNat_of_nonneg hb.1] at h2
  rw [h2.1, h2.2]
  have h3 : x.toBitVec.msb = false := by
    rw [BitVec.msb_eq_toInt]
    exact decide_eq_false (by show ¬ x.toInt < 0; omega)
  apply Int64.toBitVec_inj.mp
  rw [Int64.toBitVec_shiftRight]
  show (x.toUInt64 >>> UInt64.ofNat b.toNat).toBitVec = _
  rw [UInt64.toBitVec_shiftRight]
  have h4 : ∀ k : Fin 32, (UInt64.ofNat k).toBitVec % 64 = BitVec.ofNat 64 k ∧ (Int64.ofNat k).toBitVec.smod 64 = BitVec.ofNat 64 k := by decide +kernel
  have h5 := h4 ⟨b.toNat, by omega⟩
  dsimp only at h5
  rw [h5.1, h5.2, BitVec.sshiftRight_eq', BitVec.sshiftRight_eq_of_msb_false h3]
  rfl
theorem zcmp_0 {u v : Int64} : zcmp u v = 0 ↔ u = v := by
  unfold zcmp
  constructor
  · intro h
    split at h
    · exact absurd h (by decide)
    · split at h
      · assumption
      · exact absurd h (by decide)
  · intro h
    subst h
    rw [if_neg (by exact Int64.lt_irrefl), if_pos rfl]
