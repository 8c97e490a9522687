/-! ===== bits of a value ===== -/
def lb (x : Int64) (i : Nat) : Bool := x.toBitVec.getLsbD i
theorem lb_ext {x y : Int64} (h : ∀ i, i < 64 → lb x i = lb y i) : x = y := Int64.toBitVec_inj.mp (BitVec.eq_of_getLsbD_eq fun i hi => h i hi)
theorem lb_sh (k : Fin 32) : (Int32.ofInt ((k : Nat) : Int)).toInt64 &&& 63 = Int64.ofNat k ∧ (Int64.ofNat k).toBitVec.smod 64 = BitVec.ofNat 64 k := by
  have h1 : ∀ k : Fin 32, (Int32.ofInt ((k : Nat) : Int)).toInt64 &&& 63 = Int64.ofNat k ∧ (Int64.ofNat k).toBitVec.smod 64 = BitVec.ofNat 64 k := by decide +kernel
  exact h1 k
theorem shl_bv {x : Int64} {b : Int} (hb : 0 ≤ b ∧ b < 32) : (zshlL x b).toBitVec = x.toBitVec <<< b.toNat := by
  have h1 := lb_sh ⟨b.toNat, by omega⟩
  dsimp only at h1
  rw [Int.toNat_of_nonneg hb.1] at h1
  unfold zshlL
  rw [h1.1, Int64.toBitVec_shiftLeft, h1.2, BitVec.shiftLeft_eq', BitVec.toNat_ofNat, Nat.mod_eq_of_lt (by omega)]
theorem shr_bv {x : Int64} {b : Int} (hb : 0 ≤ b ∧ b < 32) : (zshrL x b).toBitVec = x.toBitVec.sshiftRight b.toNat := by
  have h1 := lb_sh ⟨b.toNat, by omega⟩
  dsimp only at h1
  rw [Int.toNat_of_nonneg hb.1] at h1
  unfold zshrL
  rw [h1.1, Int64.toBitVec_shiftRight, h1.2, BitVec.sshiftRight_eq', BitVec.toNat_ofNat, Nat.mod_eq_of_lt (by omega)]
theorem lb_shl {x : Int64} {b : Int} {i : Nat} (hb : 0 ≤ b ∧ b < 32) (hi : i < 64) : lb (zshlL x b) i = (decide (b.toNat ≤ i) && lb x (i - b.toNat)) := by
  unfold lb
  rw [shl_bv hb, BitVec.getLsbD_shiftLeft]
  by_cases h : i < b.toNat
  · rw [decide_eq_true hi, decide_eq_true h, decide_eq_false (show ¬ b.toNat ≤ i by omega)]; rfl
  · rw [decide_eq_true hi, decide_eq_false h, decide_eq_true (show b.toNat ≤ i by omega)]; rfl
theorem lb_shr {x : Int64} {b : Int} {i : Nat} (hb : 0 ≤ b ∧ b < 32) (hi : b.toNat + i < 64) : lb (zshrL x b) i = lb x (b.toNat + i) := by
  unfold lb
  rw [shr_bv hb, BitVec.getLsbD_sshiftRight, if_pos hi]
  have h : ¬ 64 ≤ i := by omega
  simp [h]
theorem lb_and (x y : Int64) (i : Nat) : lb (x &&& y) i = (lb x i && lb y i) := by unfold lb; rw [Int64.toBitVec_and, BitVec.getLsbD_and]
theorem lb_or (x y : Int64) (i : Nat) : lb (x ||| y) i = (lb x i || lb y i) := by unfold lb; rw [Int64.toBitVec_or, BitVec.getLsbD_or]
theorem lb_xor (x y : Int64) (i : Nat) : lb (x ^^^ y) i = (lb x i ^^ lb y i) := by unfold lb; rw [Int64.toBitVec_xor, BitVec.getLsbD_xor]
theorem lb_neg {i : Nat} (hi : i < 64) : lb (-1) i = true := by
  have h1 : (-1 : Int64).toBitVec = BitVec.allOnes 64 := by decide
  unfold lb
  rw [h1, BitVec.getLsbD_allOnes]
  exact decide_eq_true hi
theorem ones_bv (k : Fin 17) : (zshlL 1 ((k : Nat) : Int) - 1).toBitVec = BitVec.ofNat 64 (2 ^ (k : Nat) - 1) := by
  have h1 : ∀ k : Fin 17, (zshlL 1 ((k : Nat) : Int) - 1).toBitVec = BitVec.ofNat 64 (2 ^ (k : Nat) - 1) := by decide +kernel
  exact h1 k
theorem lb_ones {w : Int} {i : Nat} (hw : 0 ≤ w ∧ w ≤ 16) : lb (zshlL 1 w - 1) i = decide (i < w.toNat) := by
  have h1 := ones_bv ⟨w.toNat, by omega⟩
  dsimp only at h1
  rw [Int.toNat_of_nonneg hw.1] at h1
  unfold lb
  rw [h1, BitVec.getLsbD_ofNat, Nat.testBit_two_pow_sub_one]
  by_cases hi : i < w.toNat
  · rw [decide_eq_true hi, decide_eq_true (by omega)]; rfl
  · rw [decide_eq_false hi, Bool.and_false]
theorem lb_mask {w b : Int} {i : Nat} (hw : 0 ≤ w) (hb : 0 ≤ b ∧ b + w ≤ 16) (hi : i < 64) : lb (zshlL (zshlL 1 w - 1) b) i = decide (b.toNat ≤ i ∧ i < b.toNat + w.toNat) := by
  rw [lb_shl ⟨hb.1, by omega⟩ hi, lb_ones ⟨hw, by omega⟩]
  by_cases h : b.toNat ≤ i
  · by_cases h2 : i < b.toNat + w.toNat
    · rw [decide_eq_true h, decide_eq_true (show i - b.toNat < w.toNat by omega), decide_eq_true ⟨h, h2⟩]; rfl
    · rw [decide_eq_true h, decide_eq_false (show ¬ i - b.toNat < w.toNat by omega), decide_eq_false (fun q => h2 q.2)]; rfl
  · rw [decide_eq_false h, Bool.false_and, decide_eq_false (fun q : b.toNat ≤ i ∧ i < b.toNat + w.toNat => h q.1)]
theorem lb_sto {ty b : Int} {old v : Int64} {i : Nat} (ht : 21 ≤ ty ∧ ty ≤ 36) (hb : 0 ≤ b ∧ b + (ty - 20) ≤ 16) (hi : i < 64) : lb (stoO ty b old v) i = if b.toNat ≤ i ∧ i < b.toNat + (ty - 20).toNat then lb v (i - b.toNat) else lb old i := by
  unfold stoO
  rw [if_pos ht, lb_or, lb_and, lb_and, lb_xor, lb_neg hi, lb_mask (by omega) hb hi, lb_shl ⟨hb.1, by omega⟩ hi]
  by_cases h : b.toNat ≤ i ∧ i < b.toNat + (ty - 20).toNat
  · rw [if_pos h, decide_eq_true h, decide_eq_true h.1]; simp
  · rw [if_neg h, decide_eq_false h]; simp
theorem lb_val {ty b : Int} {x : Int64} {i : Nat} (ht : 21 ≤ ty ∧ ty ≤ 36) (hb : 0 ≤ b ∧ b + (ty - 20) ≤ 16) (hi : i < 64) : lb (valO ty b x) i = (decide (i < (ty - 20).toNat) && lb x (b.toNat + i)) := by
  unfold valO
  rw [if_pos ht, lb_and, lb_ones ⟨by omega, by omega⟩]
  by_cases h : i < (ty - 20).toNat
  · rw [lb_shr ⟨hb.1, by omega⟩ (by omega), decide_eq_true h]; simp
  · rw [decide_eq_false h]; simp
theorem lb_16 (x : Int64) (i : Nat) : lb (x &&& 65535) i = (lb x i && decide (i < 16)) := by
  have h1 : (65535 : Int64).toBitVec = BitVec.ofNat 64 (2 ^ 16 - 1) := by decide
  rw [lb_and]
  have h2 : lb 65535 i = decide (i < 16) := by
    unfold lb
    rw [h1, BitVec.getLsbD_ofNat, Nat.testBit_two_pow_sub_one]
    by_cases hi : i < 16
    · rw [decide_eq_true hi, decide_eq_true (by omega)]; rfl
    · rw [decide_eq_false hi, Bool.and_false]
  rw [h2]
/-- a value of other bits stays when bits are stored -/
theorem val_sto {t1 b1 t2 b2 : Int} {old v : Int64} (ht1 : 21 ≤ t1 ∧ t1 ≤ 36) (hb1 : 0 ≤ b1 ∧ b1 + (t1 - 20) ≤ 16) (ht2 : 21 ≤ t2 ∧ t2 ≤ 36) (hb2 : 0 ≤ b2 ∧ b2 + (t2 - 20) ≤ 16) (hs : b1 + (t1 - 20) ≤ b2 ∨ b2 + (t2 - 20) ≤ b1) : valO t2 b2 (stoO t1 b1 old v &&& 65535) = valO t2 b2 old := by
  refine lb_ext fun i hi => ?_
  rw [lb_val ht2 hb2 hi, lb_val ht2 hb2 hi]
  by_cases h : i < (t2 - 20).toNat
  · rw [lb_16, lb_sto ht1 hb1 (by omega), if_neg (by omega), decide_eq_true (show b2.toNat + i < 16 by omega)]; simp
  · rw [decide_eq_false h]; rfl
theorem sto_comm {t1 b1 t2 b2 : Int} {old v1 v2 : Int64} (ht1 : 21 ≤ t1 ∧ t1 ≤ 36) (hb1 : 0 ≤ b1 ∧ b1 + (t1 - 20) ≤ 16) (ht2 : 21 ≤ t2 ∧ t2 ≤ 36) (hb2 : 0 ≤ b2 ∧ b2 + (t2 - 20) ≤ 16) (hs : b1 + (t1 - 20) ≤ b2 ∨ b2 + (t2 - 20) ≤ b1) : stoO t2 b2 (stoO t1 b1 old v1 &&& 65535) v2 &&& 65535 = stoO t1 b1 (stoO t2 b2 old v2 &&& 65535) v1 &&& 65535 := by
  refine lb_ext fun i hi => ?_
  rw [lb_16, lb_16, lb_sto ht2 hb2 hi, lb_sto ht1 hb1 hi, lb_16, lb_16, lb_sto ht2 hb2 hi, lb_sto ht1 hb1 hi]
  by_cases h1 : b1.toNat ≤ i ∧ i < b1.toNat + (t1 - 20).toNat
  · have h2 : ¬ (b2.toNat ≤ i ∧ i < b2.toNat + (t2 - 20).toNat) := by omega
    rw [if_neg h2, if_pos h1, if_pos h1]
    simp [Bool.and_assoc]
  · by_cases h2 : b2.toNat ≤ i ∧ i < b2.toNat + (t2 - 20).toNat
    · rw [if_pos h2, if_neg h1, if_pos h2]
      simp [Bool.and_assoc]
    · rw [if_neg h2, if_neg h1, if_neg h1, if_neg h2]
/-- the byte that is put -/
theorem z_byte {x : Int64} {k : Nat} (hk : k ≤ 1) : zl2i (zshrL x (8 * (k : Int)) &&& 255) = x.toInt / 2 ^ (8 * k) % 256 := by
  rw [z255]
  have h1 : (zshrL x (8 * (k : Int))).toInt = x.toInt / 2 ^ (8 * k) := by
    show (zshrL x (8 * (k : Int))).toBitVec.toInt = _
    rw [shr_bv ⟨by omega, by omega⟩, BitVec.toInt_sshiftRight, Int.shiftRight_eq_div_pow]
    rw [show (8 * (k : Int)).toNat = 8 * k by omega]
    rfl
  rw [h1]
theorem and_16 (x : Int64) : (x &&& 65535).toInt = x.toInt % 65536 := by
  have h1 : (x &&& 65535).toBitVec.toNat = x.toBitVec.toNat % 65536 := by
    rw [Int64.toBitVec_and, BitVec.toNat_and]
    show x.toBitVec.toNat &&& 65535 = _
    exact Nat.and_two_pow_sub_one_eq_mod _ 16
  have h2 : (x &&& 65535).toInt = ((x.toBitVec.toNat % 65536 : Nat) : Int) := i64_nat h1 (by omega)
  have h3 : x.toInt % 65536 = ((x.toBitVec.toNat % 65536 : Nat) : Int) := by
    show x.toBitVec.toInt % 65536 = _
    rw [BitVec.toInt_eq_toNat_cond]
    split <;> omega
  rw [h2, h3]
theorem put2_at {D : Int → Int} {a ord : Int} {x : Int64} {j : Int} : putV D a 2 ord x j = if j = 175 + pAt a 2 ord 1 then x.toInt / 256 % 256 else if j = 175 + pAt a 2 ord 0 then x.toInt % 256 else D j := by
  show (if j = 175 + pAt a 2 ord ((1 : Nat) : Int) then _ else if j = 175 + pAt a 2 ord ((0 : Nat) : Int) then _ else D j) = _
  rw [z_byte (k := 1) (by omega), z_byte (k := 0) (by omega), show (2 : Int) ^ (8 * 1) = 256 by decide, show (2 : Int) ^ (8 * 0) = 1 by decide, Int.ediv_one]
  rfl
theorem raw_put2 {D : Int → Int} {a ord : Int} {x : Int64} : rawV (putV D a 2 ord x) a 2 ord = x &&& 65535 := by
  refine Int64.toInt_inj.mp ?_
  rw [and_16]
  show (zshlL (zshlL 0 8 ||| zi2l (putV D a 2 ord x (175 + bAt a 2 ord ((0 : Nat) : Int)))) 8 ||| zi2l (putV D a 2 ord x (175 + bAt a 2 ord ((1 : Nat) : Int)))).toInt = _
  have e0 : bAt a 2 ord ((0 : Nat) : Int) = pAt a 2 ord 1 := by unfold bAt pAt; split <;> omega
  have e1 : bAt a 2 ord ((1 : Nat) : Int) = pAt a 2 ord 0 := by unfold bAt pAt; split <;> omega
  have hne : ¬ (175 + pAt a 2 ord 0 = 175 + pAt a 2 ord 1) := by unfold pAt; split <;> omega
  rw [e0, e1, put2_at, put2_at, if_pos rfl, if_neg hne, if_pos rfl]
  have hz : (zshlL 0 8 ||| zi2l (x.toInt / 256 % 256)).toInt = x.toInt / 256 % 256 := by
    rw [zshl8_or ⟨by decide, by decide⟩ ⟨by omega, by omega⟩]
    show 0 * 256 + _ = _
    omega
  rw [zshl8_or (by rw [hz]; exact ⟨by omega, by omega⟩) ⟨by omega, by omega⟩, hz]
  omega
theorem put2_put2 {D : Int → Int} {a ord : Int} {x y : Int64} : putV (putV D a 2 ord x) a 2 ord y = putV D a 2 ord y := by
  funext j
  rw [put2_at, put2_at, put2_at]
  split
  · rfl
  · split <;> rfl
theorem put2_congr {D : Int → Int} {a ord : Int} {x y : Int64} (h : x &&& 65535 = y &&& 65535) : putV D a 2 ord x = putV D a 2 ord y := by
  funext j
  have h1 := congrArg Int64.toInt h
  rw [and_16, and_16] at h1
  rw [put2_at, put2_at]
  have h2 : x.toInt / 256 % 256 = y.toInt / 256 % 256 := by omega
  have h3 : x.toInt % 256 = y.toInt % 256 := by omega
  rw [h2, h3]
