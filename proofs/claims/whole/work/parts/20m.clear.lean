/-! ===== bytes that are cleared ===== -/
def clrD (D : Int → Int) (b : Int) : Nat → Int → Int
  | 0 => D
  | i + 1 => upD (clrD D b i) (175 + b + i) 0
theorem clrD_out {D : Int → Int} {b j : Int} : ∀ n : Nat, j < 175 + b ∨ 175 + b + n ≤ j → clrD D b n j = D j := by
  intro n
  induction n with
  | zero => intro _; rfl
  | succ n ihn =>
    intro h
    show upD (clrD D b n) (175 + b + n) 0 j = D j
    rw [upD_ne (by omega)]
    exact ihn (by omega)
section OPS17
variable {S : Option (Nat × (Nat → Int32))} {Q : Option Value ⊕ Nat → zSt → Prop} {s : zSt} {D : Int → Int} {H : List (Int → Int)} {T : List Int}
theorem C_clear_17 {b : Int} {m : Nat} (h0 : 0 ≤ b) (h1 : b + m ≤ 1024) (n : Nat) : ∀ (i : Nat) (s : zSt), i + n = m → cMm s 6 (clrD D b i) → (∀ u, frm (fun x => x = 6) s u → cMm u 6 (clrD D b m) → Q rU u) → wp S 109 17 [(0, rf 2), (3, iv (b + m)), (4, iv (b + i))] [] s Q := by
  induction n with
  | zero =>
    intro i s hi hm k1
    have him : i = m := by omega
    subst him
    exact v_RL_clearMemory_17 ⟨⟨by omega, by omega⟩, ⟨by omega, by omega⟩, fun _ => k1 s frm_refl hm, fun hc => by omega⟩
  | succ n ihn =>
    intro i s hi hm k1
    refine v_RL_clearMemory_17 ⟨⟨by omega, by omega⟩, ⟨by omega, by omega⟩, fun hc => by omega, fun _ => ⟨⟨by omega, by omega⟩, ?_⟩⟩
    have hgo := ihn (i + 1) (zwI s 6 (b + i) (zi2b 0)) (by omega) (fun j q0 q1 => ?_) fun u hfu hmu => k1 u (frm_trans (frm_I frm_refl rfl) hfu) hmu
    · rw [show b + ((i + 1 : Nat) : Int) = b + (i : Int) + 1 by omega] at hgo
      exact hgo
    · show upD (clrD D b i) (175 + b + i) 0 (175 + j) = _ ∧ _
      by_cases hj : j = b + i
      · subst hj
        rw [show 175 + (b + (i : Int)) = 175 + b + i by omega, upD_eq, zI_eq]
        exact ⟨by decide, by decide, by decide⟩
      · rw [upD_ne (by omega), zI_nj hj]
        exact hm j q0 q1
theorem C_clear {b : Int} {m : Nat} (h0 : 0 ≤ b) (h1 : b + m ≤ 1024) (hm : cMm s 6 D) (k1 : ∀ u, frm (fun x => x = 6) s u → cMm u 6 (clrD D b m) → Q rU u) : wp S 109 0 [(0, rf 2), (1, iv b), (2, iv m)] [] s Q := by
  refine v_RL_clearMemory_0 ⟨⟨by omega, by omega⟩, ⟨by omega, by omega⟩, ?_⟩
  rw [show min (b + (m : Int)) 1024 = b + m by omega, show max b 0 = b by omega]
  have hz := C_clear_17 (S := S) (Q := Q) (D := D) h0 h1 m 0 s (by omega) hm k1
  rw [show b + ((0 : Nat) : Int) = b by omega] at hz
  exact hz
theorem M_stands_81 {b t : Int} {m : Nat} (h0 : 0 ≤ b) (h1 : b + m ≤ 1024) (ht : 0 ≤ t ∧ t < 3) (n : Nat) : ∀ (i : Nat) (s : zSt), i + n = m → mRel s (clrD D b i) H T → zI s 253 (157 + 6 * t + 5) = m → (∀ u, frm (fun x => x = 253) s u → mRel u (clrD D b m) H T → Q rU u) → wp S 237 81 [(0, rf 252), (6, iv b), (7, iv (157 + 6 * t)), (8, iv i)] [] s Q := by
  induction n with
  | zero =>
    intro i s hi hm e5 k1
    have him : i = m := by omega
    subst him
    exact v_Model_stands_81 ⟨⟨by omega, by omega⟩, ⟨by omega, by omega⟩, fun _ => k1 s frm_refl hm, fun hc => by omega⟩
  | succ n ihn =>
    intro i s hi hm e5 k1
    refine v_Model_stands_81 ⟨⟨by omega, by omega⟩, ⟨by omega, by omega⟩, fun hc => by omega, fun _ => ⟨⟨by omega, by omega⟩, ?_⟩⟩
    refine ihn (i + 1) (zwI s 253 (175 + b + i) 0) (by omega) (mRel_D hm (frm_I frm_refl rfl) fun j q0 q1 => ?_) (by rw [zI_nj (by omega)]; exact e5) fun u hfu hmu => k1 u (frm_trans (frm_I frm_refl rfl) hfu) hmu
    show _ = upD (clrD D b i) (175 + b + i) 0 j
    unfold upD
    rw [zI_wI]
    by_cases hj : j = 175 + b + i
    · rw [if_pos ⟨rfl, hj⟩, if_pos hj]
    · rw [if_neg (fun hq => hj hq.2), if_neg hj]; exact hm.1 j q0 q1
end OPS17
