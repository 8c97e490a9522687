/-! ===== truth values, and small values of methods ===== -/
noncomputable def bi (P : Prop) : Int := @ite Int P (Classical.propDecidable P) 1 0
theorem bi_T {P : Prop} (h : P) : bi P = 1 := by unfold bi; exact if_pos h
theorem bi_F {P : Prop} (h : ¬ P) : bi P = 0 := by unfold bi; exact if_neg h
theorem bi_01 (P : Prop) : bi P = 0 ∨ bi P = 1 := by
  rcases Classical.em P with h | h
  · exact .inr (bi_T h)
  · exact .inl (bi_F h)
theorem bi_rng (P : Prop) : rng (bi P) := by
  rcases bi_01 P with h | h <;> rw [h] <;> exact ⟨by decide, by decide⟩
theorem bi_0 {P : Prop} : bi P = 0 ↔ ¬ P := ⟨fun h g => by rw [bi_T g] at h; exact absurd h (by decide), bi_F⟩
theorem bi_1 {P : Prop} : bi P = 1 ↔ P := ⟨fun h => Classical.byContradiction fun g => by rw [bi_F g] at h; exact absurd h (by decide), bi_T⟩
theorem bi_iff {P P' : Prop} (h : P ↔ P') : bi P = bi P' := by rw [propext h]
theorem TB_eq {P : Prop} : (xtest .eq (i32 (bi P)) (i32 0) = true → ¬ P) ∧ (¬ xtest .eq (i32 (bi P)) (i32 0) = true → P) :=
  ⟨fun h => bi_0.mp ((T_eq (bi_rng P) ⟨by decide, by decide⟩).1 h), fun h => Classical.byContradiction fun g => (T_eq (bi_rng P) ⟨by decide, by decide⟩).2 h (bi_0.mpr g)⟩
theorem TB_ne {P : Prop} : (xtest .ne (i32 (bi P)) (i32 0) = true → P) ∧ (¬ xtest .ne (i32 (bi P)) (i32 0) = true → ¬ P) :=
  ⟨fun h => Classical.byContradiction fun g => (T_ne (bi_rng P) ⟨by decide, by decide⟩).1 h (bi_0.mpr g), fun h => bi_0.mp ((T_ne (bi_rng P) ⟨by decide, by decide⟩).2 h)⟩
theorem TB_eqN {P : Prop} : (xtest .eq (i32 (bi (¬ P))) (i32 0) = true → P) ∧ (¬ xtest .eq (i32 (bi (¬ P))) (i32 0) = true → ¬ P) := ⟨fun h => Classical.not_not.mp (TB_eq.1 h), fun h => TB_eq.2 h⟩
theorem TB_neN {P : Prop} : (xtest .ne (i32 (bi (¬ P))) (i32 0) = true → ¬ P) ∧ (¬ xtest .ne (i32 (bi (¬ P))) (i32 0) = true → P) := ⟨fun h => TB_ne.1 h, fun h => Classical.not_not.mp (TB_ne.2 h)⟩
theorem zI_eq {s : zSt} {a j v : Int} : zI (zwI s a j v) a j = v := by rw [zI_wI, if_pos ⟨rfl, rfl⟩]
theorem zI_ne {s : zSt} {a j v b k : Int} (h : b ≠ a) : zI (zwI s a j v) b k = zI s b k := by rw [zI_wI, if_neg (fun g => h g.1)]
theorem zI_nj {s : zSt} {a j v b k : Int} (h : k ≠ j) : zI (zwI s a j v) b k = zI s b k := by rw [zI_wI, if_neg (fun g => h g.2)]
theorem zL_eq {s : zSt} {a j : Int} {v : Int64} : zL (zwL s a j v) a j = v := by rw [zL_wL, if_pos ⟨rfl, rfl⟩]
theorem zL_ne {s : zSt} {a j : Int} {v : Int64} {b k : Int} (h : b ≠ a) : zL (zwL s a j v) b k = zL s b k := by rw [zL_wL, if_neg (fun g => h g.1)]
theorem zL_nj {s : zSt} {a j : Int} {v : Int64} {b k : Int} (h : k ≠ j) : zL (zwL s a j v) b k = zL s b k := by rw [zL_wL, if_neg (fun g => h g.2)]
theorem wp_rd {S : Option (Nat × (Nat → Int32))} {mi pc : Nat} {l : List (Nat × Value)} {st : List Value} {s : zSt} {Q : Option Value ⊕ Nat → zSt → Prop} {a j : Int} (h : rng (zI s a j) → wp S mi pc l st s Q) : wp S mi pc l st s Q := fun hW => h (hW a j) hW
theorem wp_W {S : Option (Nat × (Nat → Int32))} {mi pc : Nat} {l : List (Nat × Value)} {st : List Value} {s : zSt} {Q : Option Value ⊕ Nat → zSt → Prop} (h : Wf s → wp S mi pc l st s Q) : wp S mi pc l st s Q := fun hW => h hW hW
theorem i_getIe {S : Option (Nat × (Nat → Int32))} {mi pc : Nat} {l : List (Nat × Value)} {st : List Value} {s : zSt} {Q : Option Value ⊕ Nat → zSt → Prop} {a x : Int} {i c k w : Nat} (hf : xfetch mi pc = some (.getfield i, 3)) (hp : xpr mi pc l = l) (hq : xfind (xft (xown mi)) i = some (c, k, w)) (hk : (xfk c)[k]? = some 0 ∨ (xfk c)[k]? = some 1) (ho : isO a c) (he : zI s a k = x) (g : rng x → wp S mi (pc + 3) l (iv x :: st) s Q) : wp S mi pc l (rf a :: st) s Q :=
  i_getI hf hp hq hk ho (by rw [he]; exact g)
theorem i_getLe {S : Option (Nat × (Nat → Int32))} {mi pc : Nat} {l : List (Nat × Value)} {st : List Value} {s : zSt} {Q : Option Value ⊕ Nat → zSt → Prop} {a : Int} {x : Int64} {i c k w : Nat} (hf : xfetch mi pc = some (.getfield i, 3)) (hp : xpr mi pc l = l) (hq : xfind (xft (xown mi)) i = some (c, k, w)) (hk : (xfk c)[k]? = some 2) (ho : isO a c) (he : zL s a k = x) (g : wp S mi (pc + 3) l (.long x :: st) s Q) : wp S mi pc l (rf a :: st) s Q :=
  i_getL hf hp hq hk ho (by rw [he]; exact g)
/-- powers of two that are steps -/
def zp2 (x : Int) : Prop := x = 1 ∨ x = 2 ∨ x = 4 ∨ x = 8 ∨ x = 16
def zup (v t : Int) : Int := (v + t - 1) / t * t
def zby (t : Int) : Int := if t = 0 then 1 else if t = 1 then 1 else if t = 4 then 4 else if t = 5 then 4 else if t = 6 then 8 else if t = 7 then 1 else 2
def zel (t v : Int) : Int := if t < 100 then zby t else v
def zsg (i n v : Int) : Int := if 0 ≤ i ∧ i < n then v else -1
def zlt (k n v : Int) : Int := if k < n then v else -1
def zdg (c : Int) : Int := if 48 ≤ c ∧ c ≤ 57 then c - 48 else -1
def zla (l w : Int) : Int := if w = 0 then 0 else if w ≤ l then l - w else 16 - w
def zlw (b v : Int) : Int := if b = 0 then v else 0
def zpo (name el cnt : Int) (inner : Int64) : Int64 := zshlL inner 8 ||| zi2l ((name - 97 + 1) * 8 + (if 1 < cnt then el + 1 else 0))
theorem zby_tab {x : Int} (h : 0 ≤ x ∧ x < 8) : ztab x = zby x := by
  rcases (by omega : x = 0 ∨ x = 1 ∨ x = 2 ∨ x = 3 ∨ x = 4 ∨ x = 5 ∨ x = 6 ∨ x = 7) with h | h | h | h | h | h | h | h <;> subst h <;> decide
theorem zby_out {x : Int} (h : ¬ (0 ≤ x ∧ x ≤ 7)) : zby x = 2 := by unfold zby; repeat rw [if_neg (by omega)]
theorem zand_pow (n : Int) (k : Nat) (hk : k < 31) (h0 : 0 ≤ n) (h1 : n ≤ 2000000) : zand n (-((2 : Int) ^ k)) = n / 2 ^ k * 2 ^ k := by
  have hn : (i32 n).toInt = n := i32_to n ⟨by omega, by omega⟩
  have e1 : (i32 n &&& i32 (-((2 : Int) ^ k))).toBitVec = ((i32 n).toBitVec >>> k) <<< k := by
    rw [Int32.toBitVec_and]
    apply BitVec.eq_of_getLsbD_eq
    intro i hi
    rw [BitVec.getLsbD_and, BitVec.getLsbD_shiftLeft, BitVec.getLsbD_ushiftRight]
    have e2 : (i32 (-((2 : Int) ^ k))).toBitVec.getLsbD i = decide (k ≤ i) := by
      show (BitVec.ofInt 32 (-((2 : Int) ^ k))).getLsbD i = _
      have h3 : ∀ k : Fin 31, ∀ i : Fin 32, (BitVec.ofInt 32 (-((2 : Int) ^ (k : Nat)))).getLsbD i = decide ((k : Nat) ≤ (i : Nat)) := by decide +kernel
      exact h3 ⟨k, hk⟩ ⟨i, hi⟩
    rw [e2]
    by_cases h : k ≤ i
    · rw [show k + (i - k) = i by omega]; simp [h, hi]
    · simp [h]
  have e3 : ((i32 n).toBitVec).toNat = n.toNat := by
    have h4 : ((i32 n).toBitVec).toInt = n := hn
    have h5 := BitVec.toInt_eq_toNat_cond (i32 n).toBitVec
    have h6 := (i32 n).toBitVec.isLt
    rw [h4] at h5
    split at h5 <;> omega
  have h7 : n.toNat / 2 ^ k * 2 ^ k ≤ n.toNat := Nat.div_mul_le_self _ _
  have e4 : (((i32 n).toBitVec >>> k) <<< k).toNat = n.toNat / 2 ^ k * 2 ^ k := by
    rw [BitVec.toNat_shiftLeft, BitVec.toNat_ushiftRight, e3, Nat.shiftRight_eq_div_pow, Nat.shiftLeft_eq, Nat.mod_eq_of_lt]
    omega
  have e5 : zand n (-((2 : Int) ^ k)) = ((n.toNat / 2 ^ k * 2 ^ k : Nat) : Int) := by
    unfold zand
    show (i32 n &&& i32 (-((2 : Int) ^ k))).toBitVec.toInt = _
    rw [e1, BitVec.toInt_eq_toNat_cond, e4, if_pos (by omega)]
  rw [e5]
  have : ((n.toNat / 2 ^ k * 2 ^ k : Nat) : Int) = (n.toNat : Int) / (2 ^ k : Nat) * (2 ^ k : Nat) := by
    rw [Int.natCast_mul, Int.natCast_ediv]
  rw [this, Int.toNat_of_nonneg h0]
  simp
theorem zup_and {x t : Int} (ht : zp2 t) (h0 : 0 ≤ x) (h1 : x ≤ 1000000) : zand (x + t - 1) (-t) = zup x t := by
  unfold zup
  rcases ht with rfl | rfl | rfl | rfl | rfl
  · exact zand_pow (x + 1 - 1) 0 (by decide) (by omega) (by omega)
  · exact zand_pow (x + 2 - 1) 1 (by decide) (by omega) (by omega)
  · exact zand_pow (x + 4 - 1) 2 (by decide) (by omega) (by omega)
  · exact zand_pow (x + 8 - 1) 3 (by decide) (by omega) (by omega)
  · exact zand_pow (x + 16 - 1) 4 (by decide) (by omega) (by omega)
