/-! ===== the class marks and counts ===== -/
def cMk (s : zSt) (P : Int → Prop) : Prop := ∀ x : Nat, x < 1024 → (lb (zL s 59 ((x / 64 : Nat) : Int)) (x % 64) = true ↔ P x)
section CMK
variable {S : Option (Nat × (Nat → Int32))} {Q : Option Value ⊕ Nat → zSt → Prop} {s : zSt}
theorem C_mark {x : Int} {P : Int → Prop} (hx : rng x) (h0 : 0 ≤ x) (hm : cMk s P) (k1 : ∀ t, frm (fun a => a = 59) s t → cMk t (fun y => P y ∨ y = x) → Q rU t) : wp S 166 0 [(0, rf 58), (1, iv x)] [] s Q := by
  refine v_Marks_mark_0 ⟨hx, fun hc => by omega, fun _ => ⟨fun hc => ?_, fun hc => ⟨h0, ⟨by omega, by omega⟩, ?_⟩⟩⟩
  · refine k1 s frm_refl fun y hy => ⟨fun h => .inl ((hm y hy).mp h), fun h => ?_⟩
    rcases h with h | h
    · exact (hm y hy).mpr h
    · omega
  · refine k1 _ (frm_L frm_refl rfl) fun y hy => ?_
    obtain ⟨n, rfl⟩ : ∃ n : Nat, x = n := ⟨x.toNat, by omega⟩
    have e1 : (n : Int) / 64 = ((n / 64 : Nat) : Int) := by omega
    have e2 : (n : Int) % 64 = ((n % 64 : Nat) : Int) := by omega
    have hb := fun j => lb_one ⟨n % 64, Nat.mod_lt _ (by decide)⟩ j
    dsimp only at hb
    rw [e1, e2]
    by_cases hw : y / 64 = n / 64
    · rw [hw, zL_eq, lb_or, hb]
      have hy2 := hm y hy
      rw [hw] at hy2
      show (_ || _) = true ↔ P y ∨ (y : Int) = n
      rw [Bool.or_eq_true, hy2, decide_eq_true_iff]
      constructor
      · intro h
        rcases h with h | h
        · exact .inl h
        · exact .inr (by omega)
      · intro h
        rcases h with h | h
        · exact .inl h
        · exact .inr (by omega)
    · rw [zL_nj (by omega), hm y hy]
      exact ⟨fun h => .inl h, fun h => by rcases h with h | h; exact h; omega⟩
theorem cMk_iff {P P' : Int → Prop} (h : cMk s P) (hp : ∀ x : Nat, x < 1024 → (P x ↔ P' x)) : cMk s P' := fun x hx => (h x hx).trans (hp x hx)
theorem C_afill (n : Nat) : ∀ (i : Nat) (s : zSt), i + n = 16 → (∀ j : Nat, j < i → zL s 59 j = 0) → (∀ t, frm (fun a => a = 59) s t → (∀ j : Nat, j < 16 → zL t 59 j = 0) → Q rU t) → wp S 165 6 [(0, rf 59), (1, .long 0), (3, iv i), (4, iv 16)] [] s Q := by
  induction n with
  | zero => intro i s hi hj hQ; exact v_Arrays_fill_6 ⟨⟨by omega, by omega⟩, ⟨by omega, by omega⟩, fun _ => hQ s frm_refl fun j h => hj j (by omega), fun hc => by omega⟩
  | succ n ihn =>
    intro i s hi hj hQ
    refine v_Arrays_fill_6 ⟨⟨by omega, by omega⟩, ⟨by omega, by omega⟩, fun hc => by omega, fun _ => ⟨⟨by omega, by omega⟩, ?_⟩⟩
    have hf : frm (fun a => a = 59) s (zwL s 59 i 0) := frm_L frm_refl rfl
    refine ihn (i + 1) _ (by omega) (fun j h => ?_) fun t hft hz => hQ t (frm_trans hf hft) hz
    by_cases hji : j = i
    · subst hji; exact zL_eq
    · rw [zL_nj (by omega)]; exact hj j (by omega)
theorem C_mclear (k1 : ∀ t, frm (fun a => a = 59) s t → cMk t (fun _ => False) → Q rU t) : wp S 164 0 [(0, rf 58)] [] s Q :=
  v_Marks_clear_0 (v_Arrays_fill_0 (C_afill 16 0 s (by omega) (fun j h => absurd h (Nat.not_lt_zero j)) fun t hft hz => zkU_U (k1 t hft fun x hx => by
    rw [hz (x / 64) (by omega)]
    have hf : lb 0 (x % 64) = false := by unfold lb; exact BitVec.getLsbD_zero
    rw [hf]
    exact ⟨fun h => absurd h (by decide), fun h => h.elim⟩)))
theorem cMk_w {P : Int → Prop} (h : cMk s P) {i : Nat} (hi : i < 16) {j : Nat} (hj : j < 64) : lb (zL s 59 i) j = pcB P (64 * i + j) := by
  have hz := h (64 * i + j) (by omega)
  rw [show (64 * i + j) / 64 = i by omega, show (64 * i + j) % 64 = j by omega] at hz
  exact pcB_of hz
theorem C_total {P : Int → Prop} (hm : cMk s P) (k1 : Q (rI ((ctN (pcB P) 1024 : Nat) : Int)) s) (n : Nat) : ∀ i : Nat, i + n = 16 → wp S 167 4 [(0, rf 58), (1, iv ((ctN (pcB P) (64 * i) : Nat) : Int)), (2, iv i)] [] s Q := by
  induction n with
  | zero =>
    intro i hi
    refine v_Marks_total_4 ⟨⟨by omega, by omega⟩, fun _ => ?_, fun hc => by omega⟩
    rw [show 64 * i = 1024 by omega]
    exact k1
  | succ n ihn =>
    intro i hi
    refine v_Marks_total_4 ⟨⟨by omega, by omega⟩, fun hc => by omega, fun _ => ⟨⟨by omega, by omega⟩, C_bitCount (zkI_I ?_ ?_)⟩⟩
    · have := ctN_le (lb (zL s 59 i)) 64
      exact ⟨by omega, by omega⟩
    · have hz := ihn (i + 1) (by omega)
      have e1 : ctN (pcB P) (64 * (i + 1)) = ctN (pcB P) (64 * i) + ctN (lb (zL s 59 i)) 64 := by
        rw [show 64 * (i + 1) = 64 * i + 64 by omega, ctN_add]
        congr 1
        exact ctN_cong 64 fun j hj => (cMk_w hm (by omega) hj).symm
      rw [e1] at hz
      exact hz
theorem C_mtotal {P : Int → Prop} (hm : cMk s P) (k1 : Q (rI ((ctN (pcB P) 1024 : Nat) : Int)) s) : wp S 167 0 [(0, rf 58)] [] s Q := v_Marks_total_0 (C_total hm k1 16 0 (by omega))
/-- a sequence begins at a place -/
noncomputable def sqB (P : Int → Prop) (x : Nat) : Bool := pcB P x && !(decide (0 < x) && pcB P (x - 1))
theorem C_seq {P : Int → Prop} (hm : cMk s P) (k1 : Q (rI ((ctN (sqB P) 1024 : Nat) : Int)) s) (n : Nat) : ∀ (i : Nat) (c : Int64), i + n = 16 → (∀ j, j < 64 → lb c j = (decide (j = 0) && (decide (0 < 64 * i) && pcB P (64 * i - 1)))) → wp S 171 7 [(0, rf 58), (1, iv ((ctN (sqB P) (64 * i) : Nat) : Int)), (2, .long c), (4, iv i)] [] s Q := by
  induction n with
  | zero =>
    intro i c hi hc
    refine v_Marks_sequences_7 ⟨⟨by omega, by omega⟩, fun _ => ?_, fun hc => by omega⟩
    rw [show 64 * i = 1024 by omega]
    exact k1
  | succ n ihn =>
    intro i c hi hc
    refine v_Marks_sequences_7 ⟨⟨by omega, by omega⟩, fun hc => by omega, fun _ => ⟨⟨by omega, by omega⟩, C_bitCount (zkI_I ?_ ?_)⟩⟩
    · have := ctN_le (lb (zL s 59 i &&& ((zshlL (zL s 59 i) 1 ||| c) ^^^ (-1)))) 64
      exact ⟨by omega, by omega⟩
    · have hz := ihn (i + 1) (zushrL (zL s 59 i) 63) (by omega) fun j hj => by
        have hu := lb_ush (x := zL s 59 i) (k := 63) (by decide) j
        rw [show (((63 : Nat) : Int)) = 63 from rfl] at hu
        rw [hu]
        by_cases hj0 : j = 0
        · subst hj0
          rw [show 0 + 63 = 63 from rfl, cMk_w hm (by omega) (by decide : 63 < 64), decide_eq_true rfl, decide_eq_true (show 0 < 64 * (i + 1) by omega), Bool.true_and, Bool.true_and, show 64 * (i + 1) - 1 = 64 * i + 63 by omega]
        · rw [lb_top (by omega), decide_eq_false hj0, Bool.false_and]
      have e1 : ctN (sqB P) (64 * (i + 1)) = ctN (sqB P) (64 * i) + ctN (lb (zL s 59 i &&& ((zshlL (zL s 59 i) 1 ||| c) ^^^ (-1)))) 64 := by
        rw [show 64 * (i + 1) = 64 * i + 64 by omega, ctN_add]
        congr 1
        refine ctN_cong 64 fun j hj => ?_
        rw [lb_and, lb_xor, lb_neg hj, lb_or, lb_shl ⟨by omega, by omega⟩ hj, hc j hj, cMk_w hm (by omega) hj]
        show (pcB P (64 * i + j) && !(decide (0 < 64 * i + j) && pcB P (64 * i + j - 1))) = _
        rw [show ((1 : Int).toNat) = 1 from rfl]
        by_cases hj0 : j = 0
        · subst hj0
          rw [decide_eq_false (show ¬ 1 ≤ 0 by omega), decide_eq_true (show (0 : Nat) = 0 from rfl), Nat.add_zero]
          simp
        · rw [decide_eq_true (show 1 ≤ j by omega), decide_eq_false hj0, cMk_w hm (by omega) (show j - 1 < 64 by omega), decide_eq_true (show 0 < 64 * i + j by omega), show 64 * i + j - 1 = 64 * i + (j - 1) by omega]
          simp
      rw [e1] at hz
      exact hz
theorem C_mseq {P : Int → Prop} (hm : cMk s P) (k1 : Q (rI ((ctN (sqB P) 1024 : Nat) : Int)) s) : wp S 171 0 [(0, rf 58)] [] s Q :=
  v_Marks_sequences_0 (C_seq hm k1 16 0 0 (by omega) fun j _ => by
    have hf : lb 0 j = false := by unfold lb; exact BitVec.getLsbD_zero
    rw [hf, decide_eq_false (show ¬ 0 < 64 * 0 by omega), Bool.false_and, Bool.and_false])
/-! a view marks its scan -/
theorem C_scan_65 {a w x p fr to_ r : Int} {k : Nat} {u : Int64} (ha : isO a 8) (ha59 : a + 4 < 58) (hk : k < 40) (hp : 1 ≤ p ∧ p ≤ 64) (hx : 0 ≤ x ∧ x ≤ 60000) (hw : 1 ≤ w ∧ w ≤ 8) (n : Nat) : ∀ (i : Int) (s : zSt) (P : Int → Prop), 0 ≤ i → i ≤ (x + w - 1) / p + 1 → i + n = (x + w - 1) / p + 1 → zI s (a + 3) k = w → cMk s P →
    (∀ t, frm (fun a => a = 59) s t → cMk t (fun y => P y ∨ (i ≤ y ∧ y ≤ (x + w - 1) / p)) → wp S 163 41 [(0, rf a), (1, rf 58), (2, .long u), (4, iv fr), (5, iv to_), (6, iv p), (7, iv k), (8, iv (r + 1))] [] t Q) →
    wp S 163 65 [(0, rf a), (1, rf 58), (2, .long u), (4, iv fr), (5, iv to_), (6, iv p), (7, iv k), (8, iv r), (9, iv x), (10, iv i)] [] s Q := by
  have q0 : 0 ≤ (x + w - 1) / p := Int.ediv_nonneg (by omega) (by omega)
  have q1 : (x + w - 1) / p ≤ x + w - 1 := Int.ediv_le_self _ (by omega)
  induction n with
  | zero =>
    intro i s P h0 hi hn hw3 hm hQ
    refine v_View_markScan_65 ha ?_
    rw [hw3]
    refine ⟨⟨by omega, by omega⟩, ⟨by omega, by omega⟩, ⟨by omega, by omega⟩, by omega, by omega, ⟨by omega, by omega⟩, ⟨by omega, by omega⟩, fun _ => ?_, fun hc => by omega⟩
    exact hQ s frm_refl (cMk_iff hm fun y _ => ⟨fun h => .inl h, fun h => by rcases h with h | h; exact h; omega⟩)
  | succ n ihn =>
    intro i s P h0 hi hn hw3 hm hQ
    refine v_View_markScan_65 ha ?_
    rw [hw3]
    refine ⟨⟨by omega, by omega⟩, ⟨by omega, by omega⟩, ⟨by omega, by omega⟩, by omega, by omega, ⟨by omega, by omega⟩, ⟨by omega, by omega⟩, fun hc => by omega, fun _ => ?_⟩
    refine C_mark ⟨by omega, by omega⟩ h0 hm fun t hft hmt => zkU_U ?_
    refine ihn (i + 1) t _ (by omega) (by omega) (by omega) ((fI hft (by omega)).trans hw3) hmt fun v hfv hmv => hQ v (frm_trans hft hfv) (cMk_iff hmv fun y _ => ⟨fun h => ?_, fun h => ?_⟩)
    · rcases h with (h | h) | h
      · exact .inl h
      · exact .inr ⟨by omega, by omega⟩
      · exact .inr ⟨by omega, by omega⟩
    · rcases h with h | h
      · exact .inl (.inl h)
      · by_cases hy : (y : Int) = i
        · exact .inl (.inr hy)
        · exact .inr ⟨by omega, by omega⟩
theorem C_scan_41 {a rows lay base fr to_ p : Int} {k : Nat} {u : Int64} {G : ySh} (ha : isO a 8) (ha59 : a + 4 < 58) (hG : okG G) (hl : 0 ≤ lay ∧ lay ≤ 8) (hrw : 1 ≤ rows ∧ rows ≤ 12) (hk : k < (gV G).length) (hbs : 0 ≤ base ∧ base ≤ 1024) (hfr : 0 ≤ fr ∧ to_ < rows) (hp : 1 ≤ p ∧ p ≤ 64) (n : Nat) : ∀ (r : Int) (s : zSt) (P : Int → Prop), fr ≤ r → r + n = to_ + 1 → cVw s a G rows lay → zI s a 0 = base → cMk s P →
    (∀ t, frm (fun a => a = 59) s t → cMk t (fun y => P y ∨ ∃ row, r ≤ row ∧ row ≤ to_ ∧ hiP (base + dist G rows lay row k) (wd (gV G) k) p y) → wp S 163 14 [(0, rf a), (1, rf 58), (2, .long u), (4, iv fr), (5, iv to_), (6, iv p), (7, iv ((k : Int) + 1))] [] t Q) →
    wp S 163 41 [(0, rf a), (1, rf 58), (2, .long u), (4, iv fr), (5, iv to_), (6, iv p), (7, iv k), (8, iv r)] [] s Q := by
  have hV := hG.2.1
  induction n with
  | zero =>
    intro r s P h0 hn hv hb hm hQ
    refine v_View_markScan_41 ha ⟨⟨by omega, by omega⟩, ⟨by omega, by omega⟩, fun _ => ?_, fun hc => by omega⟩
    exact hQ s frm_refl (cMk_iff hm fun y _ => ⟨fun h => .inl h, fun h => by rcases h with h | ⟨row, h1, h2, _⟩; exact h; omega⟩)
  | succ n ihn =>
    intro r s P h0 hn hv hb hm hQ
    have hv2 := hv
    obtain ⟨v2, v3, v4, v5, v6, v7⟩ := hv2
    obtain ⟨w1, w2, w3, w4⟩ := v7 k hk
    have hbr := vBr_b hl hrw
    have hdi := dist_in (row := r) hG hl hrw hk (by omega) (by omega)
    have hw8 := zp8_b (wd_8 (gV G) k)
    have hbf := bFor_t hG hl hrw
    have hadr : base + r / vBr lay rows * vBb G lay rows + vSt G lay rows k + r % vBr lay rows * wd (gV G) k = base + dist G rows lay r k := by unfold dist; omega
    refine v_View_markScan_41 ha ⟨⟨by omega, by omega⟩, ⟨by omega, by omega⟩, fun hc => by omega, fun _ => ?_⟩
    rw [hb, v3, v5, v6, w2, w3, hadr]
    refine ⟨⟨by omega, by omega⟩, by omega, by omega, by omega, ⟨by omega, by omega⟩, ⟨by omega, by omega⟩, by omega, by omega, ?_⟩
    have q0 : 0 ≤ (base + dist G rows lay r k) / p := Int.ediv_nonneg (by omega) (by omega)
    have q1 : (base + dist G rows lay r k) / p ≤ (base + dist G rows lay r k + wd (gV G) k - 1) / p := Int.ediv_le_ediv (by omega) (by omega)
    obtain ⟨m, hmm⟩ : ∃ m : Nat, (base + dist G rows lay r k) / p + m = (base + dist G rows lay r k + wd (gV G) k - 1) / p + 1 := ⟨((base + dist G rows lay r k + wd (gV G) k - 1) / p + 1 - (base + dist G rows lay r k) / p).toNat, by omega⟩
    refine C_scan_65 ha ha59 (by omega) hp ⟨by omega, by omega⟩ hw8 m _ s P q0 (by omega) hmm w3 hm fun t hft hmt => ?_
    refine ihn (r + 1) t _ (by omega) (by omega) (cVw_fr hv hft fun x x0 x1 => by omega) ((fI hft (by omega)).trans hb) hmt fun v hfv hmv => hQ v (frm_trans hft hfv) (cMk_iff hmv fun y _ => ⟨fun h => ?_, fun h => ?_⟩)
    · rcases h with (h | h) | ⟨row, h1, h2, h3⟩
      · exact .inl h
      · exact .inr ⟨r, by omega, by omega, h⟩
      · exact .inr ⟨row, by omega, h2, h3⟩
    · rcases h with h | ⟨row, h1, h2, h3⟩
      · exact .inl (.inl h)
      · by_cases hy : row = r
        · subst hy; exact .inl (.inr h3)
        · exact .inr ⟨row, by omega, h2, h3⟩
theorem C_scan_14 {a rows lay base fr to_ p : Int} {u : Int64} {G : ySh} (ha : isO a 8) (ha59 : a + 4 < 58) (hG : okG G) (hl : 0 ≤ lay ∧ lay ≤ 8) (hrw : 1 ≤ rows ∧ rows ≤ 12) (hbs : 0 ≤ base ∧ base ≤ 1024) (hfr : 0 ≤ fr ∧ fr ≤ to_ ∧ to_ < rows) (hp : 1 ≤ p ∧ p ≤ 64) (n : Nat) : ∀ (k : Nat) (s : zSt) (P : Int → Prop), k + n = (gV G).length → cVw s a G rows lay → zI s a 0 = base → cMk s P →
    (∀ t, frm (fun a => a = 59) s t → cMk t (fun y => P y ∨ ∃ (kk : Nat) (row : Int), k ≤ kk ∧ kk < (gV G).length ∧ lb u kk = true ∧ (fr ≤ row ∧ row ≤ to_) ∧ hiP (base + dist G rows lay row kk) (wd (gV G) kk) p y) → Q rU t) →
    wp S 163 14 [(0, rf a), (1, rf 58), (2, .long u), (4, iv fr), (5, iv to_), (6, iv p), (7, iv k)] [] s Q := by
  have hV := hG.2.1
  induction n with
  | zero =>
    intro k s P hn hv hb hm hQ
    have v3 := hv.2.1
    refine v_View_markScan_14 ha ⟨⟨by omega, by omega⟩, fun _ => ?_, fun hc => by omega⟩
    exact hQ s frm_refl (cMk_iff hm fun y _ => ⟨fun h => .inl h, fun h => by rcases h with h | ⟨kk, row, h1, h2, _⟩; exact h; omega⟩)
  | succ n ihn =>
    intro k s P hn hv hb hm hQ
    have v3 := hv.2.1
    refine v_View_markScan_14 ha ⟨⟨by omega, by omega⟩, fun hc => by omega, fun _ => ⟨fun hc => ?_, fun hc => ?_⟩⟩
    · have hbit : lb u k = true := by
        cases hb2 : lb u k with
        | true => rfl
        | false => exact absurd ((cbit (by omega)).mpr hb2) hc
      obtain ⟨m, hmm⟩ : ∃ m : Nat, fr + m = to_ + 1 := ⟨(to_ + 1 - fr).toNat, by omega⟩
      refine C_scan_41 ha ha59 hG hl hrw (by omega) hbs ⟨hfr.1, hfr.2.2⟩ hp m fr s P (by omega) hmm hv hb hm fun t hft hmt => ?_
      refine ihn (k + 1) t _ (by omega) (cVw_fr hv hft fun x x0 x1 => by omega) ((fI hft (by omega)).trans hb) hmt fun v hfv hmv => hQ v (frm_trans hft hfv) (cMk_iff hmv fun y _ => ⟨fun h => ?_, fun h => ?_⟩)
      · rcases h with (h | ⟨row, h1, h2, h3⟩) | ⟨kk, row, h1, h2, h3, h4, h5⟩
        · exact .inl h
        · exact .inr ⟨k, row, Nat.le_refl _, by omega, hbit, ⟨h1, h2⟩, h3⟩
        · exact .inr ⟨kk, row, by omega, h2, h3, h4, h5⟩
      · rcases h with h | ⟨kk, row, h1, h2, h3, h4, h5⟩
        · exact .inl (.inl h)
        · by_cases hy : kk = k
          · subst hy; exact .inl (.inr ⟨row, h4.1, h4.2, h5⟩)
          · exact .inr ⟨kk, row, by omega, h2, h3, h4, h5⟩
    · have hbit := (cbit (x := u) (k := k) (by omega)).mp hc
      refine ihn (k + 1) s P (by omega) hv hb hm fun v hfv hmv => hQ v hfv (cMk_iff hmv fun y _ => ⟨fun h => ?_, fun h => ?_⟩)
      · rcases h with h | ⟨kk, row, h1, h2, h3, h4, h5⟩
        · exact .inl h
        · exact .inr ⟨kk, row, by omega, h2, h3, h4, h5⟩
      · rcases h with h | ⟨kk, row, h1, h2, h3, h4, h5⟩
        · exact .inl h
        · by_cases hy : kk = k
          · subst hy; rw [hbit] at h3; cases h3
          · exact .inr ⟨kk, row, by omega, h2, h3, h4, h5⟩
theorem C_scan {a rows lay base fr to_ p : Int} {u : Int64} {G : ySh} (ha : isO a 8) (ha59 : a + 4 < 58) (hG : okG G) (hl : 0 ≤ lay ∧ lay ≤ 8) (hrw : 1 ≤ rows ∧ rows ≤ 12) (hbs : 0 ≤ base ∧ base ≤ 1024) (hfr : 0 ≤ fr ∧ fr ≤ to_ ∧ to_ < rows) (hp : 1 ≤ p ∧ p ≤ 64) (hv : cVw s a G rows lay) (hb : zI s a 0 = base)
    (k1 : ∀ t, frm (fun a => a = 59) s t → cMk t (scP G rows lay base u fr to_ p) → Q rU t) : wp S 163 0 [(0, rf a), (1, rf 58), (2, .long u), (4, iv fr), (5, iv to_), (6, iv p)] [] s Q := by
  refine v_View_markScan_0 ha (C_mclear fun t hft hmt => zkU_U ⟨⟨by omega, by omega⟩, fun _ => ?_, fun hc => by omega⟩)
  refine C_scan_14 ha ha59 hG hl hrw hbs hfr hp (gV G).length 0 t _ (by omega) (cVw_fr hv hft fun x x0 x1 => by omega) ((fI hft (by omega)).trans hb) hmt fun v hfv hmv => k1 v (frm_trans hft hfv) (cMk_iff hmv fun y _ => ⟨fun h => ?_, fun h => ?_⟩)
  · rcases h with h | ⟨kk, row, h1, h2, h3, h4, h5⟩
    · exact h.elim
    · exact ⟨kk, row, h2, h3, h4, h5⟩
  · obtain ⟨kk, row, h2, h3, h4, h5⟩ := h
    exact .inr ⟨kk, row, Nat.zero_le _, h2, h3, h4, h5⟩
end CMK
