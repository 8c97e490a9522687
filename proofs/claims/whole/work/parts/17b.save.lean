/-! ===== saved states ===== -/
def d0 : Int → Int := fun _ => 0
/-- the ring of the class's saved states: the oldest at o -/
def cRg (s : zSt) (H : List (Int → Int)) : Prop := (0 ≤ zI s 2 3 ∧ zI s 2 3 < 4) ∧ (zI s 2 4 = (H.length : Int) ∧ H.length ≤ 4) ∧ ∀ i : Nat, i < H.length → cSt s (128 + 31 * ((zI s 2 3 + i) % 4)) (H.getD i d0)
def pushH (H : List (Int → Int)) (D : Int → Int) : List (Int → Int) := (if H.length < 4 then H else H.tail) ++ [D]
/-- the reference's saved rows -/
def mPs (s : zSt) (H : List (Int → Int)) : Prop := (zI s 252 2 = (H.length : Int) ∧ H.length ≤ 4) ∧ ∀ i : Nat, i < H.length → ∀ j, 0 ≤ j → j < 1199 → zI s 254 (1199 * i + j) = (H.getD i d0) j
def okH (H : List (Int → Int)) : Prop := ∀ i : Nat, i < H.length → okNs (H.getD i d0)
theorem isO_sv {i : Int} (hi : 0 ≤ i ∧ i < 4) : isO (128 + 31 * i) 5 := by
  have hz := e_5 (a := 35) (j := i) lf_35 hi.1 (by omega)
  rw [show (35 : Int) + 93 + 31 * i = 128 + 31 * i by omega] at hz
  exact hz
theorem getD_tail {α : Type} {L : List α} {i : Nat} {d : α} : L.tail.getD i d = L.getD (i + 1) d := by
  cases L with
  | nil => rfl
  | cons x L => rfl
section SAVE
variable {S : Option (Nat × (Nat → Int32))} {Q : Option Value ⊕ Nat → zSt → Prop}
theorem C_save {s : zSt} {D : Int → Int} {H : List (Int → Int)} (hD : okNs D) (hH : okH H) (hs : cSt s 3 D) (hr : cRg s H)
    (hQ : ∀ t, frm (fun x => x = 2 ∨ (128 ≤ x ∧ x ≤ 251)) s t → cRg t (pushH H D) → zI t 2 7 = -1 → (∀ k, k ≠ 3 → k ≠ 4 → k ≠ 7 → zI t 2 k = zI s 2 k) → Q rU t) : wp S 18 0 [(0, rf 2)] [] s Q := by
  obtain ⟨⟨r1, r2⟩, ⟨r3, r4⟩, r5⟩ := hr
  refine v_RL_save_0 ⟨fun hc => ?_, fun hc => ?_⟩
  · have hl : H.length = 4 := by omega
    rw [r3, hl]
    have hidx : ((zI s 2 3 + 1) % 4 + ((4 : Nat) : Int) - 1) % 4 = zI s 2 3 := by omega
    rw [hidx]
    refine ⟨⟨by omega, by omega⟩, by omega, ⟨by omega, by omega⟩, ⟨by omega, by omega⟩, by omega, ⟨by omega, by omega⟩, ?_⟩
    have hf2 : frm (fun x => x = 2) s (zwI (zwI s 2 7 (-1)) 2 3 ((zI s 2 3 + 1) % 4)) := frm_I (frm_I frm_refl rfl) rfl
    refine C_Scopy (D := D) (isO_sv ⟨by omega, by omega⟩) lf_3 (by omega) hD (cSt_fr hs hD.1.2 hf2 fun x x0 x1 => by omega) fun t hft hct => zkU_U ?_
    have hfa : frm (fun x => x = 2 ∨ (128 ≤ x ∧ x ≤ 251)) s t := frm_trans (frm_mono hf2 fun x hx => .inl hx) (frm_mono hft fun x hx => .inr ⟨by omega, by omega⟩)
    have h3 : zI t 2 3 = (zI s 2 3 + 1) % 4 := by rw [fI hft (by omega), zI_eq]
    have h4 : zI t 2 4 = 4 := by rw [fI hft (by omega), zI_nj (by omega), zI_nj (by omega), r3, hl]; rfl
    have hpl : (pushH H D).length = 4 := by unfold pushH; rw [if_neg (by omega), List.length_append, List.length_tail, hl]; rfl
    refine hQ t hfa ⟨⟨by omega, by omega⟩, ⟨by rw [h4, hpl]; rfl, by omega⟩, fun i hi => ?_⟩ (by rw [fI hft (by omega), zI_nj (by omega), zI_eq]) fun k k3 k4 k7 => by rw [fI hft (by omega), zI_nj k3, zI_nj k7]
    rw [h3]
    have htl : H.tail.length = 3 := by rw [List.length_tail, hl]
    unfold pushH
    rw [if_neg (by omega)]
    by_cases hi3 : i < 3
    · rw [getD_app1 (by omega), getD_tail]
      have hz := r5 (i + 1) (by omega)
      rw [show (zI s 2 3 + ((i + 1 : Nat) : Int)) % 4 = ((zI s 2 3 + 1) % 4 + (i : Int)) % 4 by omega] at hz
      have hzf := cSt_fr hz (hH (i + 1) (by omega)).1.2 hf2 fun x x0 x1 => by omega
      exact cSt_fr hzf (hH (i + 1) (by omega)).1.2 hft fun x x0 x1 => by omega
    · rw [getD_app2 (by omega), htl, show i - 3 = 0 by omega]
      rw [show ((zI s 2 3 + 1) % 4 + (i : Int)) % 4 = zI s 2 3 by omega]
      exact hct
  · have hl : H.length < 4 := by omega
    rw [r3]
    refine ⟨⟨by omega, by omega⟩, ⟨by omega, by omega⟩, by omega, ⟨by omega, by omega⟩, ?_⟩
    have hidx : (zI s 2 3 + ((H.length : Int) + 1) - 1) % 4 = (zI s 2 3 + (H.length : Int)) % 4 := by omega
    rw [hidx]
    have hf2 : frm (fun x => x = 2) s (zwI (zwI s 2 7 (-1)) 2 4 ((H.length : Int) + 1)) := frm_I (frm_I frm_refl rfl) rfl
    refine C_Scopy (D := D) (isO_sv ⟨by omega, by omega⟩) lf_3 (by omega) hD (cSt_fr hs hD.1.2 hf2 fun x x0 x1 => by omega) fun t hft hct => zkU_U ?_
    have hfa : frm (fun x => x = 2 ∨ (128 ≤ x ∧ x ≤ 251)) s t := frm_trans (frm_mono hf2 fun x hx => .inl hx) (frm_mono hft fun x hx => .inr ⟨by omega, by omega⟩)
    have h3 : zI t 2 3 = zI s 2 3 := by rw [fI hft (by omega), zI_nj (by omega), zI_nj (by omega)]
    have h4 : zI t 2 4 = (H.length : Int) + 1 := by rw [fI hft (by omega), zI_eq]
    have hpl : (pushH H D).length = H.length + 1 := by unfold pushH; rw [if_pos hl, List.length_append]; rfl
    refine hQ t hfa ⟨⟨by omega, by omega⟩, ⟨by rw [h4, hpl]; rfl, by omega⟩, fun i hi => ?_⟩ (by rw [fI hft (by omega), zI_nj (by omega), zI_eq]) fun k k3 k4 k7 => by rw [fI hft (by omega), zI_nj k4, zI_nj k7]
    rw [h3]
    unfold pushH
    rw [if_pos hl]
    by_cases hi3 : i < H.length
    · rw [getD_app1 hi3]
      have hz := r5 i hi3
      have hzf := cSt_fr hz (hH i hi3).1.2 hf2 fun x x0 x1 => by omega
      exact cSt_fr hzf (hH i hi3).1.2 hft fun x x0 x1 => by omega
    · rw [getD_app2 (by omega), show i - H.length = 0 by omega, show i = H.length by omega]
      exact hct
theorem C_msaves_10 (n : Nat) : ∀ (k : Nat) (s : zSt) (H : Int → Int), k + n = 3597 → zI s 252 2 = 4 → (∀ j, 0 ≤ j → j < 4796 → zI s 254 j = if j < k then H (j + 1199) else H j) → (∀ t, frm (fun x => x = 254) s t → zI t 252 2 = 4 → (∀ j, 0 ≤ j → j < 3597 → zI t 254 j = H (j + 1199)) → wp S 182 51 [(0, rf 252), (1, iv 0)] [] (zwI t 252 2 3) Q) →
    wp S 182 10 [(0, rf 252), (1, iv k)] [] s Q := by
  induction n with
  | zero =>
    intro k s H hk h4 hj hQ
    refine v_Model_saves_10 ⟨⟨by omega, by omega⟩, fun _ => ⟨by rw [h4]; exact ⟨by omega, by omega⟩, ?_⟩, fun hc => by omega⟩
    rw [h4]
    exact hQ s frm_refl h4 fun j q0 q1 => by rw [hj j q0 (by omega), if_pos (by omega)]
  | succ n ihn =>
    intro k s H hk h4 hj hQ
    refine v_Model_saves_10 ⟨⟨by omega, by omega⟩, fun hc => by omega, fun _ => ⟨⟨by omega, by omega⟩, ⟨by omega, by omega⟩, ?_⟩⟩
    refine ihn (k + 1) _ H (by omega) (by rw [zI_ne (by omega)]; exact h4) (fun j q0 q1 => ?_) fun t hft => hQ t (frm_trans (frm_I frm_refl rfl) hft)
    by_cases hjk : j = k
    · subst hjk
      rw [zI_eq, hj _ (by omega) (by omega), if_neg (by omega), if_pos (by omega)]
    · rw [zI_nj hjk, hj j q0 q1]
      by_cases hlt : j < k
      · rw [if_pos hlt, if_pos (by omega)]
      · rw [if_neg hlt, if_neg (by omega)]
theorem C_msaves_51 {m : Int} (hm : 0 ≤ m ∧ m ≤ 3) (n : Nat) : ∀ (k : Nat) (s : zSt) (D : Int → Int), k + n = 1199 → zI s 252 2 = m → (∀ j, 0 ≤ j → j < 1199 → zI s 253 j = D j) → (∀ j : Int, 0 ≤ j → j < k → zI s 254 (1199 * m + j) = D j) → (∀ t, frm (fun x => x = 254) s t → (∀ j, 0 ≤ j → j < 1199 → zI t 254 (1199 * m + j) = D j) → (∀ j, j < 1199 * m → zI t 254 j = zI s 254 j) → Q rU (zwI t 252 2 (m + 1))) →
    wp S 182 51 [(0, rf 252), (1, iv k)] [] s Q := by
  induction n with
  | zero =>
    intro k s D hk h4 hD hj hQ
    refine v_Model_saves_51 ⟨⟨by omega, by omega⟩, fun _ => ⟨by rw [h4]; exact ⟨by omega, by omega⟩, ?_⟩, fun hc => by omega⟩
    rw [h4]
    exact hQ s frm_refl (fun j q0 q1 => hj j q0 (by omega)) fun _ _ => rfl
  | succ n ihn =>
    intro k s D hk h4 hD hj hQ
    refine v_Model_saves_51 ⟨⟨by omega, by omega⟩, fun hc => by omega, fun _ => ⟨⟨by omega, by omega⟩, ?_⟩⟩
    rw [h4, hD k (by omega) (by omega)]
    refine ⟨⟨by omega, by omega⟩, ihn (k + 1) _ D (by omega) (by rw [zI_ne (by omega)]; exact h4) (fun j q0 q1 => by rw [zI_ne (by omega)]; exact hD j q0 q1) (fun j q0 q1 => ?_) fun t hft h1 h2 => hQ t (frm_trans (frm_I frm_refl rfl) hft) h1 fun j hlt => ?_⟩
    · by_cases hjk : j = k
      · subst hjk; rw [zI_eq]
      · rw [zI_nj (by omega)]; exact hj j q0 (by omega)
    · rw [h2 j hlt, zI_nj (by omega)]
theorem C_msaves {s : zSt} {D : Int → Int} {H : List (Int → Int)} (hm : mD s D) (hp : mPs s H) (hQ : ∀ t, frm (fun x => x = 252 ∨ x = 254) s t → (∀ k, k ≠ 2 → zI t 252 k = zI s 252 k) → mPs t (pushH H D) → Q rU t) : wp S 182 0 [(0, rf 252)] [] s Q := by
  obtain ⟨⟨p1, p2⟩, p3⟩ := hp
  refine v_Model_saves_0 ⟨fun hc => ?_, fun hc => ?_⟩
  · have hl : H.length < 4 := by omega
    refine C_msaves_51 (m := H.length) ⟨by omega, by omega⟩ 1199 0 s D (by decide) p1 hm (fun j q0 q1 => by omega) fun t hft h1 h2 => ?_
    refine hQ _ (frm_I (frm_mono hft fun x hx => .inr hx) (.inl rfl)) (fun k hk => by rw [zI_nj hk, fI hft (by omega)]) ?_
    have hpl : (pushH H D).length = H.length + 1 := by unfold pushH; rw [if_pos hl, List.length_append]; rfl
    refine ⟨⟨by rw [zI_eq, hpl]; rfl, by omega⟩, fun i hi j q0 q1 => ?_⟩
    rw [zI_ne (by omega)]
    unfold pushH
    rw [if_pos hl]
    by_cases hi3 : i < H.length
    · rw [getD_app1 hi3, h2 _ (by omega)]
      exact p3 i hi3 j q0 q1
    · rw [getD_app2 (by omega), show i - H.length = 0 by omega, show i = H.length by omega]
      exact h1 j q0 q1
  · have hl : H.length = 4 := by omega
    refine C_msaves_10 3597 0 s (fun j => zI s 254 j) (by decide) hc (fun j q0 q1 => by rw [if_neg (by omega)]) fun t hft h4 h5 => ?_
    refine C_msaves_51 (m := 3) ⟨by omega, by omega⟩ 1199 0 _ D (by decide) zI_eq (fun j q0 q1 => by rw [zI_ne (by omega), fI hft (by omega)]; exact hm j q0 q1) (fun j q0 q1 => by omega) fun u hfu h1 h2 => ?_
    refine hQ _ (frm_I (frm_trans (frm_I (frm_mono hft fun x hx => .inr hx) (.inl rfl)) (frm_mono hfu fun x hx => .inr hx)) (.inl rfl)) (fun k hk => by rw [zI_nj hk, fI hfu (by omega), zI_nj hk, fI hft (by omega)]) ?_
    have hpl : (pushH H D).length = 4 := by unfold pushH; rw [if_neg (by omega), List.length_append, List.length_tail, hl]; rfl
    refine ⟨⟨by rw [zI_eq, hpl]; rfl, by omega⟩, fun i hi j q0 q1 => ?_⟩
    rw [zI_ne (by omega)]
    have htl : H.tail.length = 3 := by rw [List.length_tail, hl]
    unfold pushH
    rw [if_neg (by omega)]
    by_cases hi3 : i < 3
    · rw [getD_app1 (by omega), getD_tail, h2 _ (by omega), zI_ne (by omega), h5 _ (by omega) (by omega)]
      have hz := p3 (i + 1) (by omega) j q0 q1
      rw [← hz]
      congr 1
      omega
    · rw [getD_app2 (by omega), htl, show i - 3 = 0 by omega, show i = 3 by omega]
      exact h1 j q0 q1
theorem C_mundo_33 {m : Int} (hm : 0 ≤ m ∧ m ≤ 3) (n : Nat) : ∀ (k : Nat) (s : zSt) (D : Int → Int), k + n = 1199 → zI s 252 2 = m → (∀ j, 0 ≤ j → j < 1199 → zI s 254 (1199 * m + j) = D j) → (∀ j : Int, 0 ≤ j → j < k → zI s 253 j = D j) → (∀ t, frm (fun x => x = 253) s t → mD t D → Q (rI m) t) →
    wp S 178 33 [(0, rf 252), (1, iv k)] [] s Q := by
  induction n with
  | zero =>
    intro k s D hk h4 hD hj hQ
    refine v_Model_undo_33 ⟨⟨by omega, by omega⟩, fun _ => ?_, fun hc => by omega⟩
    rw [h4]
    exact hQ s frm_refl fun j q0 q1 => hj j q0 (by omega)
  | succ n ihn =>
    intro k s D hk h4 hD hj hQ
    refine v_Model_undo_33 ⟨⟨by omega, by omega⟩, fun hc => by omega, fun _ => ?_⟩
    rw [h4, hD k (by omega) (by omega)]
    refine ⟨⟨by omega, by omega⟩, ⟨by omega, by omega⟩, ihn (k + 1) _ D (by omega) (by rw [zI_ne (by omega)]; exact h4) (fun j q0 q1 => by rw [zI_ne (by omega)]; exact hD j q0 q1) (fun j q0 q1 => ?_) fun t hft h1 => hQ t (frm_trans (frm_I frm_refl rfl) hft) h1⟩
    by_cases hjk : j = k
    · subst hjk; rw [zI_eq]
    · rw [zI_nj hjk]; exact hj j q0 (by omega)
end SAVE
