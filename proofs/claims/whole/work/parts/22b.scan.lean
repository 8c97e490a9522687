/-! ===== the pieces that a scan touches ===== -/
def hiP (a w p x : Int) : Prop := a / p ≤ x ∧ x ≤ (a + w - 1) / p
def tcB (G : ySh) (rows lay base : Int) (u : Int64) (fr to_ : Int) (b : Int) : Prop := ∃ (row : Int) (k : Nat), (fr ≤ row ∧ row ≤ to_) ∧ k < (gV G).length ∧ lb u k = true ∧ base + dist G rows lay row k ≤ b ∧ b < base + dist G rows lay row k + wd (gV G) k
def scP (G : ySh) (rows lay base : Int) (u : Int64) (fr to_ p : Int) (x : Int) : Prop := ∃ (k : Nat) (row : Int), k < (gV G).length ∧ lb u k = true ∧ (fr ≤ row ∧ row ≤ to_) ∧ hiP (base + dist G rows lay row k) (wd (gV G) k) p x
noncomputable def pcB (P : Int → Prop) (x : Nat) : Bool := @decide (P x) (Classical.propDecidable _)
theorem pcB_T {P : Int → Prop} {x : Nat} : pcB P x = true ↔ P x := @decide_eq_true_iff _ (Classical.propDecidable _)
theorem pcB_F {P : Int → Prop} {x : Nat} (h : ¬ P x) : pcB P x = false := by
  cases hc : pcB P x with
  | false => rfl
  | true => exact absurd (pcB_T.mp hc) h
theorem pcB_of {P : Int → Prop} {x : Nat} {b : Bool} (h : b = true ↔ P x) : b = pcB P x := by
  cases hb : b with
  | false => exact (pcB_F (fun hp => by rw [h.mpr hp] at hb; cases hb)).symm
  | true => exact (pcB_T.mpr (h.mp hb)).symm
theorem pcB_iff {P P' : Int → Prop} {x : Nat} (h : P x ↔ P' x) : pcB P x = pcB P' x := pcB_of (pcB_T.trans h)
theorem hiP_iff {a w p x : Int} (hw : 1 ≤ w) (hp : 1 ≤ p) : hiP a w p x ↔ ∃ b, a ≤ b ∧ b < a + w ∧ b / p = x := by
  constructor
  · intro ⟨h1, h2⟩
    by_cases hc : a / p = x
    · exact ⟨a, by omega, by omega, hc⟩
    · have h3 : a < x * p := (Int.ediv_lt_iff_lt_mul (by omega)).mp (by omega)
      have h4 : x * p ≤ a + w - 1 := (Int.le_ediv_iff_mul_le (by omega)).mp h2
      exact ⟨x * p, by omega, by omega, Int.mul_ediv_cancel _ (by omega)⟩
  · intro ⟨b, h1, h2, h3⟩
    subst h3
    exact ⟨Int.ediv_le_ediv (by omega) h1, Int.ediv_le_ediv (by omega) (by omega)⟩
theorem scP_iff {G : ySh} {rows lay base fr to_ p x : Int} {u : Int64} (hp : 1 ≤ p) : scP G rows lay base u fr to_ p x ↔ ∃ b, tcB G rows lay base u fr to_ b ∧ b / p = x := by
  constructor
  · intro ⟨k, row, h1, h2, h3, h4⟩
    obtain ⟨b, b1, b2, b3⟩ := (hiP_iff (by have := zp8_b (wd_8 (gV G) k); omega) hp).mp h4
    exact ⟨b, ⟨row, k, h3, h1, h2, b1, b2⟩, b3⟩
  · intro ⟨b, ⟨row, k, h3, h1, h2, b1, b2⟩, b3⟩
    exact ⟨k, row, h1, h2, h3, (hiP_iff (by have := zp8_b (wd_8 (gV G) k); omega) hp).mpr ⟨b, b1, b2, b3⟩⟩
theorem ctN_ext {p : Nat → Bool} {n m : Nat} (h : n ≤ m) (hf : ∀ x, n ≤ x → x < m → p x = false) : ctN p m = ctN p n := by
  have h1 := ctN_add p n (m - n)
  rw [show n + (m - n) = m by omega] at h1
  rw [h1, ctN_0 (m - n) fun k hk => hf (n + k) (by omega) (by omega)]
  rfl
/-! how far a table reaches -/
theorem clE_t (V : List yLf) {m : Int} (hm : 0 ≤ m) : ∀ k : Nat, clE V m k ≤ (8 * m + 7) * k := by
  intro k
  induction k with
  | zero => show (0 : Int) ≤ _ * ((0 : Nat) : Int); omega
  | succ k ihk =>
    have hb := zup_b (e := clE V m k) (wd_8 V k)
    have hw := zp8_b (wd_8 V k)
    have h2 : m * wd V k ≤ m * 8 := Int.mul_le_mul_of_nonneg_left hw.2 hm
    have h3 : clE V m (k + 1) = zup (clE V m k) (wd V k) + m * wd V k := rfl
    have h4 : (8 * m + 7) * ((k + 1 : Nat) : Int) = (8 * m + 7) * (k : Int) + (8 * m + 7) := by
      rw [show ((k + 1 : Nat) : Int) = (k : Int) + 1 by omega, Int.mul_add, Int.mul_one]
    omega
theorem blk_t (V : List yLf) {m : Int} (hm : 0 ≤ m) (hV : V.length ≤ 40) : blk V m ≤ (8 * m + 7) * 40 + 7 := by
  have h1 := clE_t V hm V.length
  have h2 : (8 * m + 7) * (V.length : Int) ≤ (8 * m + 7) * 40 := Int.mul_le_mul_of_nonneg_left (by omega) (by omega)
  have h3 := zup8_b (clE V m V.length)
  unfold blk
  omega
theorem bFor_t {G : ySh} {rows lay : Int} (hG : okG G) (hl : 0 ≤ lay ∧ lay ≤ 8) (hr : 1 ≤ rows ∧ rows ≤ 12) : bFor G rows lay ≤ 8192 := by
  have hV := hG.2.1
  unfold bFor
  by_cases h0 : lay = 0
  · rw [if_pos h0]
    have h1 := gS_b hG
    have h2 : rows * gS G ≤ 12 * 320 := Int.mul_le_mul hr.2 h1.2.1 h1.1 (by omega)
    have h3 := zup8_b (rows * gS G)
    omega
  · rw [if_neg h0]
    by_cases h1 : lay = 1
    · rw [if_pos h1]
      have h2 := blk_b (gV G) (m := rows) ⟨by omega, by omega⟩ hV
      omega
    · rw [if_neg h1]
      have hb := blk_b (gV G) (m := lay) ⟨by omega, by omega⟩ hV
      have ht := blk_t (gV G) (m := lay) (by omega) hV
      rcases (by omega : lay = 2 ∨ lay = 3 ∨ lay = 4 ∨ lay = 5 ∨ lay = 6 ∨ lay = 7 ∨ lay = 8) with h | h | h | h | h | h | h
      · subst h
        exact Int.le_trans (Int.mul_le_mul (by omega : (rows + 2 - 1) / 2 ≤ 6) (by omega : blk (gV G) 2 ≤ 928) hb.1 (by omega)) (by omega)
      · subst h
        exact Int.le_trans (Int.mul_le_mul (by omega : (rows + 3 - 1) / 3 ≤ 4) (by omega : blk (gV G) 3 ≤ 1248) hb.1 (by omega)) (by omega)
      · subst h
        exact Int.le_trans (Int.mul_le_mul (by omega : (rows + 4 - 1) / 4 ≤ 3) (by omega : blk (gV G) 4 ≤ 1568) hb.1 (by omega)) (by omega)
      · subst h
        exact Int.le_trans (Int.mul_le_mul (by omega : (rows + 5 - 1) / 5 ≤ 3) (by omega : blk (gV G) 5 ≤ 1888) hb.1 (by omega)) (by omega)
      · subst h
        exact Int.le_trans (Int.mul_le_mul (by omega : (rows + 6 - 1) / 6 ≤ 2) (by omega : blk (gV G) 6 ≤ 2208) hb.1 (by omega)) (by omega)
      · subst h
        exact Int.le_trans (Int.mul_le_mul (by omega : (rows + 7 - 1) / 7 ≤ 2) (by omega : blk (gV G) 7 ≤ 2528) hb.1 (by omega)) (by omega)
      · subst h
        exact Int.le_trans (Int.mul_le_mul (by omega : (rows + 8 - 1) / 8 ≤ 2) (by omega : blk (gV G) 8 ≤ 2848) hb.1 (by omega)) (by omega)
/-! single bits -/
theorem lb_one (k : Fin 64) (j : Nat) : lb (zshlL 1 ((k : Nat) : Int)) j = decide ((k : Nat) = j) := by
  have h1 : ∀ k : Fin 64, (zshlL 1 ((k : Nat) : Int)).toBitVec = BitVec.twoPow 64 k := by decide +kernel
  unfold lb
  rw [h1 k, BitVec.getLsbD_twoPow]
  simp [k.isLt]
theorem and_1 (y : Int64) : (lb y 0 = true → y &&& 1 = 1) ∧ (lb y 0 = false → y &&& 1 = 0) := by
  have h1 : uN (y &&& 1) = uN y % 2 := by
    rw [uN_and]
    exact Nat.and_two_pow_sub_one_eq_mod _ 1
  have h2 : lb y 0 = decide (uN y % 2 = 1) := by rw [lb_uN, Nat.testBit_zero]
  rw [h2]
  constructor
  · intro h
    have h3 := of_decide_eq_true h
    exact uN_inj (by rw [h1, h3]; rfl)
  · intro h
    have h3 := of_decide_eq_false h
    exact uN_inj (by rw [h1, show uN y % 2 = 0 by omega]; rfl)
theorem lb_ush {x : Int64} {k : Nat} (hk : k < 64) (j : Nat) : lb (zushrL x k) j = lb x (j + k) := by
  rw [lb_uN, lb_uN, uN_ush hk, Nat.testBit_div_two_pow]
theorem lb_top {x : Int64} {j : Nat} (h : 64 ≤ j) : lb x j = false := BitVec.getLsbD_of_ge _ _ h
theorem shr_0 {x : Int64} {k : Nat} (hk : k < 64) : lb (zshrL x k) 0 = lb x k := by
  have h1 : ∀ k : Fin 64, (Int32.ofInt ((k : Nat) : Int)).toInt64 &&& 63 = Int64.ofNat k ∧ ((Int64.ofNat k).toBitVec.smod 64).toNat = k := by decide +kernel
  have h2 := h1 ⟨k, hk⟩
  dsimp only at h2
  unfold lb zshrL
  rw [h2.1, Int64.toBitVec_shiftRight, BitVec.sshiftRight_eq', h2.2, BitVec.getLsbD_sshiftRight]
  simp [hk]
theorem cbit {x : Int64} {k : Nat} (hk : k < 64) : zcmp (zushrL x k &&& 1) 0 = 0 ↔ lb x k = false := by
  rw [zcmp_0]
  have h1 := and_1 (zushrL x k)
  rw [lb_ush hk, Nat.zero_add] at h1
  constructor
  · intro h
    cases hc : lb x k with
    | false => rfl
    | true => rw [h1.1 hc] at h; exact absurd h (by decide)
  · intro h; exact h1.2 h
theorem mbit {x : Int64} {k : Nat} (hk : k < 64) : zcmp (zshrL x k &&& 1) 1 = 0 ↔ lb x k = true := by
  rw [zcmp_0]
  have h1 := and_1 (zshrL x k)
  rw [shr_0 hk] at h1
  constructor
  · intro h
    cases hc : lb x k with
    | true => rfl
    | false => rw [h1.2 hc] at h; exact absurd h (by decide)
  · intro h; exact h1.1 h
