/-! ===== the reference marks and counts ===== -/
def mMk (s : zSt) (P : Int → Prop) : Prop := ∀ b, 0 ≤ b → b < 8192 → (zI s 274 b = 0 ∨ zI s 274 b = 1) ∧ (zI s 274 b = 1 ↔ P b)
theorem mMk_iff {s : zSt} {P P' : Int → Prop} (h : mMk s P) (hp : ∀ b, 0 ≤ b → b < 8192 → (P b ↔ P' b)) : mMk s P' := fun b q0 q1 => ⟨(h b q0 q1).1, (h b q0 q1).2.trans (hp b q0 q1)⟩
section MMK
variable {S : Option (Nat × (Nat → Int32))} {Q : Option Value ⊕ Nat → zSt → Prop} {D : Int → Int}
theorem M_sc_3 {r rows lay base fr to_ : Int} {u : Int64} (n : Nat) : ∀ (i : Nat) (s : zSt), i + n = 8192 → (∀ b : Int, 0 ≤ b → b < i → zI s 274 b = 0) → (∀ t, frm (fun a => a = 274) s t → mMk t (fun _ => False) → wp S 270 29 [(0, rf 252), (1, iv r), (2, iv rows), (3, iv lay), (4, iv base), (5, .long u), (8, iv to_), (9, iv fr)] [] t Q) →
    wp S 270 3 [(0, rf 252), (1, iv r), (2, iv rows), (3, iv lay), (4, iv base), (5, .long u), (7, iv fr), (8, iv to_), (9, iv i)] [] s Q := by
  induction n with
  | zero =>
    intro i s hi hz hQ
    exact v_Model_marksScan_3 ⟨⟨by omega, by omega⟩, fun _ => hQ s frm_refl fun b q0 q1 => ⟨.inl (hz b q0 (by omega)), fun h => by rw [hz b q0 (by omega)] at h; exact absurd h (by decide), fun h => h.elim⟩, fun hc => by omega⟩
  | succ n ihn =>
    intro i s hi hz hQ
    refine v_Model_marksScan_3 ⟨⟨by omega, by omega⟩, fun hc => by omega, fun _ => ⟨⟨by omega, by omega⟩, ?_⟩⟩
    have hf : frm (fun a => a = 274) s (zwI s 274 i 0) := frm_I frm_refl rfl
    refine ihn (i + 1) _ (by omega) (fun b q0 q1 => ?_) fun t hft hmt => hQ t (frm_trans hf hft) hmt
    by_cases hb : b = i
    · subst hb; exact zI_eq
    · rw [zI_nj hb]; exact hz b q0 (by omega)
theorem M_sc_81 {r rows lay base to_ row x w : Int} {k : Nat} {u : Int64} (hr : 0 ≤ r ∧ r < 6) (hk : k < 40) (hx : 0 ≤ x ∧ x + w ≤ 8192) (hw : 1 ≤ w ∧ w ≤ 8) (n : Nat) : ∀ (i : Int) (s : zSt) (P : Int → Prop), 0 ≤ i → i + n = w → zby (zI s 259 (40 * r + k)) = w → mMk s P →
    (∀ t, frm (fun a => a = 274) s t → mMk t (fun b => P b ∨ (x + i ≤ b ∧ b < x + w)) → wp S 270 39 [(0, rf 252), (1, iv r), (2, iv rows), (3, iv lay), (4, iv base), (5, .long u), (8, iv to_), (9, iv row), (10, iv ((k : Int) + 1))] [] t Q) →
    wp S 270 81 [(0, rf 252), (1, iv r), (2, iv rows), (3, iv lay), (4, iv base), (5, .long u), (8, iv to_), (9, iv row), (10, iv k), (11, iv x), (12, iv i)] [] s Q := by
  induction n with
  | zero =>
    intro i s P h0 hi hz hm hQ
    refine v_Model_marksScan_81 ?_
    rw [hz]
    exact ⟨⟨by omega, by omega⟩, ⟨by omega, by omega⟩, ⟨by omega, by omega⟩, fun _ => hQ s frm_refl (mMk_iff hm fun b _ _ => ⟨fun h => .inl h, fun h => by rcases h with h | h; exact h; omega⟩), fun hc => by omega⟩
  | succ n ihn =>
    intro i s P h0 hi hz hm hQ
    refine v_Model_marksScan_81 ?_
    rw [hz]
    refine ⟨⟨by omega, by omega⟩, ⟨by omega, by omega⟩, ⟨by omega, by omega⟩, fun hc => by omega, fun _ => ⟨⟨by omega, by omega⟩, ?_⟩⟩
    have hf : frm (fun a => a = 274) s (zwI s 274 (x + i) 1) := frm_I frm_refl rfl
    refine ihn (i + 1) _ (fun b => P b ∨ b = x + i) (by omega) (by omega) (by rw [zI_ne (by omega)]; exact hz) (fun b q0 q1 => ?_) fun t hft hmt => hQ t (frm_trans hf hft) (mMk_iff hmt fun b _ _ => ⟨fun h => ?_, fun h => ?_⟩)
    · by_cases hb : b = x + i
      · subst hb
        rw [zI_eq]
        exact ⟨.inr rfl, fun _ => .inr rfl, fun _ => rfl⟩
      · rw [zI_nj hb]
        have hmb := hm b q0 q1
        exact ⟨hmb.1, fun h => .inl (hmb.2.mp h), fun h => by rcases h with h | h; exact hmb.2.mpr h; exact absurd h hb⟩
    · rcases h with (h | h) | h
      · exact .inl h
      · exact .inr ⟨by omega, by omega⟩
      · exact .inr ⟨by omega, by omega⟩
    · rcases h with h | h
      · exact .inl (.inl h)
      · by_cases hb : b = x + i
        · exact .inl (.inr hb)
        · exact .inr ⟨by omega, by omega⟩
theorem mRc_274 {s t : zSt} {r : Int} (h : mRc s D r) (hf : frm (fun a => a = 274) s t) : mRc t D r := by
  obtain ⟨w1, w2, w3, w4⟩ := h
  refine ⟨(fI hf (by omega)).trans w1, (fI hf (by omega)).trans w2, (fI hf (by omega)).trans w3, fun i hi => ?_⟩
  obtain ⟨x1, x2, x3, x4, x5, x6⟩ := w4 i hi
  exact ⟨(fI hf (by omega)).trans x1, (fI hf (by omega)).trans x2, (fI hf (by omega)).trans x3, (fI hf (by omega)).trans x4, (fI hf (by omega)).trans x5, fun q hq => (fI hf (by omega)).trans (x6 q hq)⟩
theorem M_sc_39 {r rows lay base to_ row : Int} {u : Int64} (hr : 0 ≤ r ∧ r < 6) (hG : okG (shp D r)) (hl : 0 ≤ lay ∧ lay ≤ 8) (hrw : 1 ≤ rows ∧ rows ≤ 12) (hbs : 0 ≤ base ∧ base + bFor (shp D r) rows lay ≤ 8192) (hrow : 0 ≤ row ∧ row < rows) (n : Nat) : ∀ (k : Nat) (s : zSt) (P : Int → Prop), k + n = (gV (shp D r)).length → mRc s D r → mMk s P →
    (∀ t, frm (fun a => a = 274) s t → mMk t (fun b => P b ∨ ∃ kk : Nat, k ≤ kk ∧ kk < (gV (shp D r)).length ∧ lb u kk = true ∧ base + dist (shp D r) rows lay row kk ≤ b ∧ b < base + dist (shp D r) rows lay row kk + wd (gV (shp D r)) kk) → wp S 270 29 [(0, rf 252), (1, iv r), (2, iv rows), (3, iv lay), (4, iv base), (5, .long u), (8, iv to_), (9, iv (row + 1))] [] t Q) →
    wp S 270 39 [(0, rf 252), (1, iv r), (2, iv rows), (3, iv lay), (4, iv base), (5, .long u), (8, iv to_), (9, iv row), (10, iv k)] [] s Q := by
  have hV := hG.2.1
  induction n with
  | zero =>
    intro k s P hn hR hm hQ
    have h6 := hR.2.2.1
    exact v_Model_marksScan_39 ⟨hr, ⟨by omega, by omega⟩, fun _ => hQ s frm_refl (mMk_iff hm fun b _ _ => ⟨fun h => .inl h, fun h => by rcases h with h | ⟨kk, h1, h2, _⟩; exact h; omega⟩), fun hc => by omega⟩
  | succ n ihn =>
    intro k s P hn hR hm hQ
    have h6 := hR.2.2.1
    have hk : k < (gV (shp D r)).length := by omega
    refine v_Model_marksScan_39 ⟨hr, ⟨by omega, by omega⟩, fun hc => by omega, fun _ => ⟨fun hc => ?_, fun hc => ?_⟩⟩
    · have hbit : ¬ lb u k = true := fun h => hc ((mbit (by omega)).mpr h)
      refine ihn (k + 1) s P (by omega) hR hm fun v hfv hmv => hQ v hfv (mMk_iff hmv fun b _ _ => ⟨fun h => ?_, fun h => ?_⟩)
      · rcases h with h | ⟨kk, h1, h2, h3, h4⟩
        · exact .inl h
        · exact .inr ⟨kk, by omega, h2, h3, h4⟩
      · rcases h with h | ⟨kk, h1, h2, h3, h4⟩
        · exact .inl h
        · by_cases hy : kk = k
          · subst hy; exact absurd h3 hbit
          · exact .inr ⟨kk, by omega, h2, h3, h4⟩
    · have hbit := (mbit (x := u) (k := k) (by omega)).mp hc
      have hdi := dist_in hG hl hrw hk hrow.1 hrow.2
      have hw8 := zp8_b (wd_8 (gV (shp D r)) k)
      refine C_distance hr hG hl hrw hk hrow hR (zkI_I ⟨by omega, by omega⟩ ?_)
      have hz9 : zby (zI s 259 (40 * r + k)) = wd (gV (shp D r)) k := by rw [(hR.2.2.2 k hk).1]; rfl
      obtain ⟨m, hmm⟩ : ∃ m : Nat, (0 : Int) + m = wd (gV (shp D r)) k := ⟨(wd (gV (shp D r)) k).toNat, by omega⟩
      refine M_sc_81 hr (by omega) ⟨by omega, by omega⟩ hw8 m 0 s P (by omega) hmm hz9 hm fun t hft hmt => ?_
      refine ihn (k + 1) t _ (by omega) (mRc_274 hR hft) hmt fun v hfv hmv => hQ v (frm_trans hft hfv) (mMk_iff hmv fun b _ _ => ⟨fun h => ?_, fun h => ?_⟩)
      · rcases h with (h | h) | ⟨kk, h1, h2, h3, h4⟩
        · exact .inl h
        · exact .inr ⟨k, Nat.le_refl _, hk, hbit, by omega, by omega⟩
        · exact .inr ⟨kk, by omega, h2, h3, h4⟩
      · rcases h with h | ⟨kk, h1, h2, h3, h4⟩
        · exact .inl (.inl h)
        · by_cases hy : kk = k
          · subst hy; exact .inl (.inr ⟨by omega, by omega⟩)
          · exact .inr ⟨kk, by omega, h2, h3, h4⟩
theorem M_sc_29 {r rows lay base to_ : Int} {u : Int64} (hr : 0 ≤ r ∧ r < 6) (hG : okG (shp D r)) (hl : 0 ≤ lay ∧ lay ≤ 8) (hrw : 1 ≤ rows ∧ rows ≤ 12) (hbs : 0 ≤ base ∧ base + bFor (shp D r) rows lay ≤ 8192) (hto : to_ < rows) (n : Nat) : ∀ (row : Int) (s : zSt) (P : Int → Prop), 0 ≤ row → row + n = to_ + 1 → mRc s D r → mMk s P →
    (∀ t, frm (fun a => a = 274) s t → mMk t (fun b => P b ∨ tcB (shp D r) rows lay base u row to_ b) → Q (rI 8192) t) →
    wp S 270 29 [(0, rf 252), (1, iv r), (2, iv rows), (3, iv lay), (4, iv base), (5, .long u), (8, iv to_), (9, iv row)] [] s Q := by
  induction n with
  | zero =>
    intro row s P h0 hn hR hm hQ
    exact v_Model_marksScan_29 ⟨⟨by omega, by omega⟩, ⟨by omega, by omega⟩, fun _ => hQ s frm_refl (mMk_iff hm fun b _ _ => ⟨fun h => .inl h, fun h => by rcases h with h | ⟨rw_, kk, h1, _⟩; exact h; omega⟩), fun hc => by omega⟩
  | succ n ihn =>
    intro row s P h0 hn hR hm hQ
    refine v_Model_marksScan_29 ⟨⟨by omega, by omega⟩, ⟨by omega, by omega⟩, fun hc => by omega, fun _ => ?_⟩
    refine M_sc_39 hr hG hl hrw hbs ⟨h0, by omega⟩ (gV (shp D r)).length 0 s P (by omega) hR hm fun t hft hmt => ?_
    refine ihn (row + 1) t _ (by omega) (by omega) (mRc_274 hR hft) hmt fun v hfv hmv => hQ v (frm_trans hft hfv) (mMk_iff hmv fun b _ _ => ⟨fun h => ?_, fun h => ?_⟩)
    · rcases h with (h | ⟨kk, _, h2, h3, h4⟩) | ⟨rw_, kk, h1, h2⟩
      · exact .inl h
      · exact .inr ⟨row, kk, ⟨by omega, by omega⟩, h2, h3, h4⟩
      · exact .inr ⟨rw_, kk, ⟨by omega, by omega⟩, h2⟩
    · rcases h with h | ⟨rw_, kk, h1, h2, h3, h4⟩
      · exact .inl (.inl h)
      · by_cases hy : rw_ = row
        · subst hy; exact .inl (.inr ⟨kk, Nat.zero_le _, h2, h3, h4⟩)
        · exact .inr ⟨rw_, kk, ⟨by omega, by omega⟩, h2, h3, h4⟩
theorem M_scan {r rows lay base fr to_ : Int} {u : Int64} {s : zSt} (hr : 0 ≤ r ∧ r < 6) (hG : okG (shp D r)) (hl : 0 ≤ lay ∧ lay ≤ 8) (hrw : 1 ≤ rows ∧ rows ≤ 12) (hbs : 0 ≤ base ∧ base + bFor (shp D r) rows lay ≤ 8192) (hfr : 0 ≤ fr ∧ fr ≤ to_ ∧ to_ < rows) (hR : mRc s D r)
    (k1 : ∀ t, frm (fun a => a = 274) s t → mMk t (tcB (shp D r) rows lay base u fr to_) → Q (rI 8192) t) : wp S 270 0 [(0, rf 252), (1, iv r), (2, iv rows), (3, iv lay), (4, iv base), (5, .long u), (7, iv fr), (8, iv to_)] [] s Q := by
  refine v_Model_marksScan_0 (M_sc_3 8192 0 s (by omega) (fun b q0 q1 => by omega) fun t hft hmt => ?_)
  obtain ⟨m, hmm⟩ : ∃ m : Nat, fr + m = to_ + 1 := ⟨(to_ + 1 - fr).toNat, by omega⟩
  refine M_sc_29 hr hG hl hrw hbs hfr.2.2 m fr t _ hfr.1 hmm (mRc_274 hR hft) hmt fun v hfv hmv => k1 v (frm_trans hft hfv) (mMk_iff hmv fun b _ _ => ⟨fun h => by rcases h with h | h; exact h.elim; exact h, fun h => .inr h⟩)
/-! how many pieces are marked -/
def inPc (P : Int → Prop) (p x : Int) : Prop := ∃ b, 0 ≤ b ∧ b < 8192 ∧ P b ∧ b / p = x
theorem zor_01 : zor 0 0 = 0 ∧ zor 0 1 = 1 ∧ zor 1 0 = 1 ∧ zor 1 1 = 1 := by decide +kernel
theorem M_mk_17 {P : Int → Prop} {p x2 y : Int} {s : zSt} (hm : mMk s P) (hp : 1 ≤ p ∧ p ≤ 64) (hy : 0 ≤ y ∧ y + p ≤ 8192) (k1 : wp S 271 4 [(0, rf 252), (1, iv p), (2, iv (x2 + bi (∃ b, y ≤ b ∧ b < y + p ∧ P b))), (3, iv (y + p))] [] s Q) (n : Nat) : ∀ j : Int, 0 ≤ j → j + n = p →
    wp S 271 17 [(0, rf 252), (1, iv p), (2, iv x2), (3, iv y), (4, iv (bi (∃ b, y ≤ b ∧ b < y + j ∧ P b))), (5, iv j)] [] s Q := by
  induction n with
  | zero =>
    intro j h0 hj
    refine v_Model_marked_17 ⟨⟨by omega, by omega⟩, ⟨by omega, by omega⟩, fun _ => ?_, fun hc => by omega⟩
    rw [show j = p by omega]
    exact k1
  | succ n ihn =>
    intro j h0 hj
    refine v_Model_marked_17 ⟨⟨by omega, by omega⟩, ⟨by omega, by omega⟩, fun hc => by omega, fun _ => ⟨⟨by omega, by omega⟩, ?_⟩⟩
    have hmb := hm (y + j) (by omega) (by omega)
    have hz := ihn (j + 1) (by omega) (by omega)
    have e1 : zor (bi (∃ b, y ≤ b ∧ b < y + j ∧ P b)) (zI s 274 (y + j)) = bi (∃ b, y ≤ b ∧ b < y + (j + 1) ∧ P b) := by
      by_cases hc : P (y + j)
      · rw [hmb.2.mpr hc, bi_T (P := ∃ b, y ≤ b ∧ b < y + (j + 1) ∧ P b) ⟨y + j, by omega, by omega, hc⟩]
        rcases bi_01 (∃ b, y ≤ b ∧ b < y + j ∧ P b) with h | h <;> rw [h]
        · exact zor_01.2.1
        · exact zor_01.2.2.2
      · have h00 : zI s 274 (y + j) = 0 := by
          rcases hmb.1 with h | h
          · exact h
          · exact absurd (hmb.2.mp h) hc
        rw [h00, bi_iff (P' := ∃ b, y ≤ b ∧ b < y + (j + 1) ∧ P b) ⟨fun ⟨b, b1, b2, b3⟩ => ⟨b, b1, by omega, b3⟩, fun ⟨b, b1, b2, b3⟩ => ⟨b, b1, by
          by_cases hb : b = y + j
          · subst hb; exact absurd b3 hc
          · omega, b3⟩⟩]
        rcases bi_01 (∃ b, y ≤ b ∧ b < y + (j + 1) ∧ P b) with h | h <;> rw [h]
        · exact zor_01.1
        · exact zor_01.2.2.1
    rw [e1]
    exact hz
theorem M_mk_4 {P : Int → Prop} {p : Int} {N : Nat} {s : zSt} (hm : mMk s P) (hp : 1 ≤ p ∧ p ≤ 64) (hN : p * N = 8192) (hNb : N ≤ 8192) (k1 : Q (rI ((ctN (pcB (inPc P p)) N : Nat) : Int)) s) (n : Nat) : ∀ (i : Nat) (y : Int), i + n = N → y = p * i →
    wp S 271 4 [(0, rf 252), (1, iv p), (2, iv ((ctN (pcB (inPc P p)) i : Nat) : Int)), (3, iv y)] [] s Q := by
  induction n with
  | zero =>
    intro i y hi hy
    rw [show i = N by omega] at hy
    refine v_Model_marked_4 ⟨⟨by omega, by omega⟩, fun _ => ?_, fun hc => by omega⟩
    rw [show i = N by omega]
    exact k1
  | succ n ihn =>
    intro i y hi hy
    have h1 : p * ((i + 1 : Nat) : Int) = p * (i : Int) + p := by rw [show ((i + 1 : Nat) : Int) = (i : Int) + 1 by omega, Int.mul_add, Int.mul_one]
    have h2 : p * ((i + 1 : Nat) : Int) ≤ p * (N : Int) := Int.mul_le_mul_of_nonneg_left (by omega) (by omega)
    have h3 : 0 ≤ p * (i : Int) := Int.mul_nonneg (by omega) (by omega)
    refine v_Model_marked_4 ⟨⟨by omega, by omega⟩, fun hc => by omega, fun _ => ?_⟩
    have hz := ihn (i + 1) (y + p) (by omega) (by omega)
    have hiff : (∃ b, y ≤ b ∧ b < y + p ∧ P b) ↔ inPc P p i := by
      constructor
      · intro ⟨b, b1, b2, b3⟩
        refine ⟨b, by omega, by omega, b3, ?_⟩
        have q1 : (i : Int) ≤ b / p := (Int.le_ediv_iff_mul_le (by omega)).mpr (by rw [Int.mul_comm]; omega)
        have q2 : b / p < (i : Int) + 1 := (Int.ediv_lt_iff_lt_mul (by omega)).mpr (by rw [Int.mul_comm, Int.mul_add, Int.mul_one]; omega)
        omega
      · intro ⟨b, b1, b2, b3, b4⟩
        have q1 := (Int.le_ediv_iff_mul_le (show 0 < p by omega)).mp (show (i : Int) ≤ b / p by omega)
        have q2 := (Int.ediv_lt_iff_lt_mul (show 0 < p by omega)).mp (show b / p < (i : Int) + 1 by omega)
        rw [Int.mul_comm] at q1
        rw [Int.mul_comm, Int.mul_add, Int.mul_one] at q2
        exact ⟨b, by omega, by omega, b3⟩
    have e1 : ((ctN (pcB (inPc P p)) (i + 1) : Nat) : Int) = ((ctN (pcB (inPc P p)) i : Nat) : Int) + bi (∃ b, y ≤ b ∧ b < y + p ∧ P b) := by
      rw [ctN_s, bi_iff hiff]
      by_cases hc : inPc P p i
      · rw [bi_T hc, if_pos (pcB_T.mpr hc)]; omega
      · rw [bi_F hc, pcB_F hc]; simp
    rw [e1] at hz
    have hj := M_mk_17 (S := S) (Q := Q) (x2 := ((ctN (pcB (inPc P p)) i : Nat) : Int)) hm hp ⟨by omega, by omega⟩ hz p.toNat 0 (by omega) (by omega)
    rw [bi_F (fun ⟨b, b1, b2, _⟩ => by omega)] at hj
    exact hj
theorem M_marked {P : Int → Prop} {p : Int} {s : zSt} (hm : mMk s P) (hp : p = 16 ∨ p = 32 ∨ p = 64) (k1 : Q (rI ((ctN (pcB (inPc P p)) 1024 : Nat) : Int)) s) : wp S 271 0 [(0, rf 252), (1, iv p)] [] s Q := by
  have hN : ∃ N : Nat, p * N = 8192 ∧ N ≤ 1024 ∧ ∀ b : Int, b < 8192 → b / p < N := by
    rcases hp with rfl | rfl | rfl
    · exact ⟨512, by omega, by omega, fun b hb => by omega⟩
    · exact ⟨256, by omega, by omega, fun b hb => by omega⟩
    · exact ⟨128, by omega, by omega, fun b hb => by omega⟩
  obtain ⟨N, h1, h2, h3⟩ := hN
  rw [ctN_ext h2 fun x x0 x1 => pcB_F fun ⟨b, b1, b2, b3, b4⟩ => by have := h3 b b2; omega] at k1
  exact v_Model_marked_0 (M_mk_4 hm ⟨by omega, by omega⟩ h1 (by omega) k1 N 0 0 (by omega) (by omega))
theorem M_ru_110 {P : Int → Prop} {s : zSt} (hm : mMk s P) (k1 : Q (rI ((ctN (sqB P) 8192 : Nat) : Int)) s) (n : Nat) : ∀ i : Nat, i + n = 8192 → wp S 272 110 [(0, rf 252), (7, iv 8192), (8, iv ((ctN (sqB P) i : Nat) : Int)), (9, iv i)] [] s Q := by
  induction n with
  | zero =>
    intro i hi
    refine v_Model_runs_110 ⟨⟨by omega, by omega⟩, ⟨by omega, by omega⟩, fun _ => ?_, fun hc => by omega⟩
    rw [show i = 8192 by omega]
    exact k1
  | succ n ihn =>
    intro i hi
    have hz := ihn (i + 1) (by omega)
    have hmb := hm i (by omega) (by omega)
    have hN : sqB P i = false → wp S 272 110 [(0, rf 252), (7, iv 8192), (8, iv (((ctN (sqB P) i : Nat) : Int) + 0)), (9, iv ((i : Int) + 1))] [] s Q := fun h => by
      rw [show ctN (sqB P) (i + 1) = ctN (sqB P) i by rw [ctN_s, h]; rfl] at hz
      rw [Int.add_zero]
      exact hz
    have hY : sqB P i = true → wp S 272 110 [(0, rf 252), (7, iv 8192), (8, iv (((ctN (sqB P) i : Nat) : Int) + 1)), (9, iv ((i : Int) + 1))] [] s Q := fun h => by
      rw [show ((ctN (sqB P) (i + 1) : Nat) : Int) = ((ctN (sqB P) i : Nat) : Int) + 1 by rw [ctN_s, h]; rfl] at hz
      exact hz
    refine v_Model_runs_110 ⟨⟨by omega, by omega⟩, ⟨by omega, by omega⟩, fun hc => by omega, fun _ => ⟨⟨by omega, by omega⟩, fun hc => hN ?_, fun hc => ⟨fun h0 => hY ?_, fun h0 => ⟨⟨by omega, by omega⟩, fun h1 => hN ?_, fun h1 => hY ?_⟩⟩⟩⟩
    · unfold sqB
      rw [pcB_F (fun h => hc (hmb.2.mpr h)), Bool.false_and]
    · unfold sqB
      rw [pcB_T.mpr (hmb.2.mp hc), decide_eq_false (show ¬ 0 < i by omega)]
      rfl
    · have hmp := hm ((i : Int) - 1) (by omega) (by omega)
      have hp1 : pcB P (i - 1) = true := by
        refine pcB_T.mpr ?_
        rw [show ((i - 1 : Nat) : Int) = (i : Int) - 1 by omega]
        refine hmp.2.mp ?_
        rcases hmp.1 with h | h
        · exact absurd h h1
        · exact h
      unfold sqB
      rw [hp1, decide_eq_true (show 0 < i by omega)]
      simp
    · have hmp := hm ((i : Int) - 1) (by omega) (by omega)
      have hp1 : pcB P (i - 1) = false := by
        refine pcB_F fun h => ?_
        rw [show ((i - 1 : Nat) : Int) = (i : Int) - 1 by omega] at h
        have := hmp.2.mpr h
        omega
      unfold sqB
      rw [hp1, pcB_T.mpr (hmb.2.mp hc)]
      simp
end MMK
