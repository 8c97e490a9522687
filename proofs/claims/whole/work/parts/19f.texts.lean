/-! ===== texts, and calls about a table as a whole ===== -/
section OPS5
variable {S : Option (Nat × (Nat → Int32))} {Q : Option Value ⊕ Nat → zSt → Prop} {s : zSt} {D : Int → Int} {H : List (Int → Int)} {T : List Int}
theorem bmod_byte {v : Int} (h : 0 ≤ v ∧ v ≤ 127) : zi2b (zi2b v) = v := by
  have hb := zi2b_b v
  rw [zi2b_eq ⟨by omega, by omega⟩, zi2b_eq ⟨by omega, by omega⟩]
  unfold Int.bmod
  simp only
  repeat' split
  all_goals omega
theorem getD_snoc {T : List Int} {v : Int} {i : Nat} (hi : i < T.length + 1) : (T ++ [v]).getD i 0 = if i = T.length then v else T.getD i 0 := by
  by_cases hc : i = T.length
  · subst hc; rw [if_pos rfl, getD_app2 (Nat.le_refl _), Nat.sub_self]; rfl
  · rw [if_neg hc, getD_app1 (by omega)]
theorem len_snoc (T : List Int) (v : Int) : (T ++ [v]).length = T.length + 1 := by rw [List.length_append]; rfl
/-! append -/
theorem X_append {v : Int} (hA : okA D) (hH : okHs H) (hT : okTx T) (h : cRel s D H T) (hv : rng v) (k1 : ¬ (0 ≤ v ∧ v ≤ 127) → Q (rT 0) (zbump s)) (k2 : 0 ≤ v ∧ v ≤ 127 → T.length = 80 → Q (rT 1) (zbump s)) (k3 : 0 ≤ v ∧ v ≤ 127 → T.length < 80 → ∀ u, frm clsC s u → cRel u D H (T ++ [v]) → Q (rI ((T.length : Int) + 1)) u) : wp S 88 0 [(0, rf 2), (1, iv v)] [] s Q := by
  have h0 := h.2.2.2.1.1
  have h80 := hT.1
  refine v_RL_append_0 ⟨hv, fun hc => k1 (by omega), fun hc => ⟨fun hc2 => ⟨fun hc3 => v_Text_add_0 ⟨fun hc4 => by omega, fun _ => ⟨⟨by omega, by omega⟩, ⟨by omega, by omega⟩, zkU_U ?_⟩⟩, fun hc3 => k2 ⟨hc, hc2⟩ (by omega)⟩, fun hc2 => k1 (by omega)⟩⟩
  rw [h0, bmod_byte ⟨hc, hc2⟩, zI_eq]
  refine k3 ⟨hc, hc2⟩ (by omega) _ (frm_I (frm_I frm_refl (by unfold clsC; omega)) (by unfold clsC; omega)) ?_
  have hf : frm (fun x => x = 36 ∨ x = 41) s (zwI (zwI s 41 (T.length : Int) v) 36 0 ((T.length : Int) + 1)) := frm_I (frm_I frm_refl (.inr rfl)) (.inl rfl)
  obtain ⟨a, b, c, d, e⟩ := h
  have hD0 := hA.1.1
  have hH' := okHs_H hH
  refine ⟨cSt_fr a hD0.2 hf fun x x0 x1 => by omega, cSh_fr b hf fun x x0 x1 => by omega, ⟨?_, ⟨?_, c.2.1.2⟩, fun i hi => ?_⟩, ⟨by rw [zI_eq, len_snoc]; rfl, fun i hi => ?_⟩, ?_⟩
  · rw [fI hf (by omega)]; exact c.1
  · rw [fI hf (by omega)]; exact c.2.1.1
  · rw [fI hf (by omega)]; exact cSt_fr (c.2.2 i hi) (hH' i hi).1.2 hf fun x x0 x1 => by omega
  · rw [len_snoc] at hi
    rw [getD_snoc hi, zI_ne (by omega)]
    by_cases hi2 : i = T.length
    · subst hi2; rw [if_pos rfl, zI_eq]
    · rw [if_neg hi2, zI_nj (by omega)]; exact d.2 i (by omega)
  · unfold cBs
    rw [fI hf (by omega), fI hf (by omega), show (fun k : Nat => zI (zwI (zwI s 41 (T.length : Int) v) 36 0 ((T.length : Int) + 1)) 43 k) = fun k : Nat => zI s 43 k from funext fun k => fI hf (by omega)]
    exact e
theorem M_append {v : Int} (hT : okTx T) (h : mRel s D H T) (hv : rng v) (k1 : ¬ (0 ≤ v ∧ v ≤ 127) → ∀ u, frm modC s u → zI u 252 3 = 1 → mRel u D H T → Q (rI 0) u) (k2 : 0 ≤ v ∧ v ≤ 127 → T.length = 80 → ∀ u, frm modC s u → zI u 252 3 = 2 → mRel u D H T → Q (rI 0) u) (k3 : 0 ≤ v ∧ v ≤ 127 → T.length < 80 → ∀ u, frm modC s u → zI u 252 3 = 0 → mRel u D H (T ++ [v]) → Q (rI ((T.length : Int) + 1)) u) : wp S 220 0 [(0, rf 252), (1, iv v)] [] s Q := by
  have h5 := h.2.2.1
  have h80 := hT.1
  refine v_Model_append_0 ⟨hv, fun hc => ⟨fun hc2 => ⟨⟨by omega, by omega⟩, ⟨by omega, by omega⟩, ?_⟩, fun hc2 => k2 hc (by omega) _ (frm_I frm_refl (by unfold modC; omega)) zI_eq (mRel_252 h ⟨by omega, by omega⟩)⟩, fun hc => k1 hc _ (frm_I frm_refl (by unfold modC; omega)) zI_eq (mRel_252 h ⟨by omega, by omega⟩)⟩
  rw [h5]
  refine k3 hc (by omega) _ (frm_I (frm_I (frm_I frm_refl (by unfold modC; omega)) (by unfold modC; omega)) (by unfold modC; omega)) (by rw [zI_nj (by omega), zI_ne (by omega), zI_eq]) ⟨fun j q0 q1 => ?_, ⟨⟨?_, h.2.1.1.2⟩, fun i hi j q0 q1 => ?_⟩, by rw [zI_eq, len_snoc]; rfl, fun i hi => ?_⟩
  · rw [zI_ne (by omega), zI_ne (by omega), zI_ne (by omega)]; exact h.1 j q0 q1
  · rw [zI_nj (by omega), zI_ne (by omega), zI_nj (by omega)]; exact h.2.1.1.1
  · rw [zI_ne (by omega), zI_ne (by omega), zI_ne (by omega)]; exact h.2.1.2 i hi j q0 q1
  · rw [len_snoc] at hi
    rw [getD_snoc hi, zI_ne (by omega)]
    by_cases hi2 : i = T.length
    · subst hi2; rw [if_pos rfl, zI_eq]
    · rw [if_neg hi2, zI_nj (by omega), zI_ne (by omega)]; exact h.2.2.2 i (by omega)
theorem okTx_snoc {v : Int} (hT : okTx T) (hv : 0 ≤ v ∧ v ≤ 127) (hl : T.length < 80) : okTx (T ++ [v]) := by
  refine ⟨by rw [len_snoc]; omega, fun i hi => ?_⟩
  rw [len_snoc] at hi
  rw [getD_snoc hi]
  by_cases hi2 : i = T.length
  · rw [if_pos hi2]; exact hv
  · rw [if_neg hi2]; exact hT.2 i (by omega)
/-! clearText -/
theorem X_clearText (hA : okA D) (hH : okHs H) (h : cRel s D H T) (k1 : ∀ u, frm clsC s u → cRel u D H [] → Q (rI (T.length : Int)) u) : wp S 11 0 [(0, rf 2)] [] s Q := by
  have h0 := h.2.2.2.1.1
  refine v_RL_clearText_0 ?_
  rw [h0]
  have hf : frm (fun x => x = 36) s (zwI s 36 0 0) := frm_I frm_refl rfl
  obtain ⟨a, b, c, d, e⟩ := h
  have hD0 := hA.1.1
  have hH' := okHs_H hH
  refine k1 _ (frm_mono hf fun x hx => by unfold clsC; omega) ⟨cSt_fr a hD0.2 hf fun x x0 x1 => by omega, cSh_fr b hf fun x x0 x1 => by omega, ⟨?_, ⟨?_, c.2.1.2⟩, fun i hi => ?_⟩, ⟨zI_eq, fun i hi => absurd hi (Nat.not_lt_zero i)⟩, ?_⟩
  · rw [fI hf (by omega)]; exact c.1
  · rw [fI hf (by omega)]; exact c.2.1.1
  · rw [fI hf (by omega)]; exact cSt_fr (c.2.2 i hi) (hH' i hi).1.2 hf fun x x0 x1 => by omega
  · unfold cBs
    rw [fI hf (by omega), fI hf (by omega), show (fun k : Nat => zI (zwI s 36 0 0) 43 k) = fun k : Nat => zI s 43 k from funext fun k => fI hf (by omega)]
    exact e
theorem M_clearText (h : mRel s D H T) (k1 : ∀ u, frm modC s u → mRel u D H [] → Q (rI (T.length : Int)) u) : wp S 221 0 [(0, rf 252)] [] s Q := by
  refine v_Model_clearText_0 ?_
  rw [h.2.2.1]
  refine k1 _ (frm_I (frm_I frm_refl (by unfold modC; omega)) (by unfold modC; omega)) ⟨fun j q0 q1 => ?_, ⟨⟨?_, h.2.1.1.2⟩, fun i hi j q0 q1 => ?_⟩, zI_eq, fun i hi => absurd hi (Nat.not_lt_zero i)⟩
  · rw [zI_ne (by omega), zI_ne (by omega)]; exact h.1 j q0 q1
  · rw [zI_nj (by omega), zI_nj (by omega)]; exact h.2.1.1.1
  · rw [zI_ne (by omega), zI_ne (by omega)]; exact h.2.1.2 i hi j q0 q1
/-! tableInfo -/
theorem m_live {t : Int} (h : mRel s D H T) : (0 ≤ t ∧ t ≤ 2 ∧ zI s 253 (157 + 6 * t) ≠ -1) ↔ isLv D t :=
  ⟨fun hc => ⟨hc.1, by omega, by have := hc.2.2; rw [h.1 _ (by omega) (by omega)] at this; exact this⟩, fun hc => ⟨hc.1, by have := hc.2.1; omega, by rw [h.1 _ (by have := hc.1; omega) (by have := hc.2.1; omega)]; exact hc.2.2⟩⟩
theorem C_tableNumber {t w : Int} (hv : isLv D t) (hs : cSt s 3 D) (hw : 0 ≤ w ∧ w ≤ 5) (k1 : Q (rI (D (157 + 6 * t + w))) s) : wp S 33 0 [(0, rf 2), (1, iv t), (2, iv w)] [] s Q := by
  have hz := (cTb_live hs hv.1 hv.2.1).2 hv.2.2
  refine v_RL_tableNumber_0 ⟨⟨hv.1, hv.2.1⟩, ⟨by omega, by omega⟩, fun hc => ?_, fun hc => ?_, fun hc => ?_, fun hc => ?_, fun hc => ?_, fun hc => ?_⟩
  · subst hc; have hq := hz 0 (by omega) (by omega); rw [show (0 : Int) + 1 = 1 by omega] at hq; rw [hq]; exact k1
  · subst hc; have hq := hz 1 (by omega) (by omega); rw [show (1 : Int) + 1 = 2 by omega] at hq; rw [hq]; exact k1
  · subst hc; have hq := hz 2 (by omega) (by omega); rw [show (2 : Int) + 1 = 3 by omega] at hq; rw [hq]; exact k1
  · subst hc; have hq := hz 3 (by omega) (by omega); rw [show (3 : Int) + 1 = 4 by omega] at hq; rw [hq]; exact k1
  · subst hc; have hq := hz 4 (by omega) (by omega); rw [show (4 : Int) + 1 = 5 by omega] at hq; rw [hq]; exact k1
  · have hw5 : w = 5 := by omega
    subst hw5; have hq := hz 5 (by omega) (by omega); rw [show (5 : Int) + 1 = 6 by omega] at hq; rw [hq]; exact k1
theorem tab_rng {t w : Int} (hA : okA D) (hv : isLv D t) (hw : 0 ≤ w ∧ w ≤ 5) : rng (D (157 + 6 * t + w)) := by
  obtain ⟨q1, q2, q3, q4, q5, q6, q7, q8⟩ := isLv_ok hA hv
  have hG : okG (tG D t) := okG_shp hA.1 q1.1 q1.2
  have hb := bFor_b hG q4 q3
  have he := bFor_eq hG q4 q3
  have hz := zup8_b ((tNr D t + vBr (tLy D t) (tNr D t) - 1) / vBr (tLy D t) (tNr D t) * vBb (tG D t) (tLy D t) (tNr D t))
  rw [← he] at q7
  have hD0 := hA.1.1
  unfold tRc at q1
  unfold tNr at q3
  unfold tLy at q4
  unfold tOr at q5
  unfold tBs at q6 q8
  unfold tBy at q7 q8
  rcases (by omega : w = 0 ∨ w = 1 ∨ w = 2 ∨ w = 3 ∨ w = 4 ∨ w = 5) with h | h | h | h | h | h <;> subst h
  · rw [Int.add_zero]; exact ⟨by omega, by omega⟩
  · exact ⟨by omega, by omega⟩
  · exact ⟨by omega, by omega⟩
  · exact ⟨by omega, by omega⟩
  · exact ⟨by omega, by omega⟩
  · exact ⟨by omega, by omega⟩
theorem X_tableInfo {t w : Int} (hA : okA D) (h : cRel s D H T) (ht : rng t) (hw : rng w) (k1 : ¬ isLv D t → Q (rT 2) (zbump s)) (k2 : isLv D t → ¬ (0 ≤ w ∧ w ≤ 5) → Q (rT 0) (zbump s)) (k3 : isLv D t → 0 ≤ w ∧ w ≤ 5 → Q (rI (D (157 + 6 * t + w))) s) : wp S 114 0 [(0, rf 2), (1, iv t), (2, iv w)] [] s Q := by
  have hl := (c_live hA h t).1
  refine v_RL_tableInfo_0 ⟨ht, fun hc => ⟨hw, fun hc2 => C_tableNumber (hl.mp hc) h.1 hc2 (zkI_I (tab_rng hA (hl.mp hc) hc2) (k3 (hl.mp hc) hc2)), fun hc2 => k2 (hl.mp hc) hc2⟩, fun hc => k1 fun hh => hc (hl.mpr hh)⟩
theorem M_tableInfo {t w : Int} (h : mRel s D H T) (ht : rng t) (hw : rng w) (k1 : ¬ isLv D t → ∀ u, frm modC s u → zI u 252 3 = 1 → mRel u D H T → Q (rI 0) u) (k2 : isLv D t → ¬ (0 ≤ w ∧ w ≤ 5) → ∀ u, frm modC s u → zI u 252 3 = 2 → mRel u D H T → Q (rI 0) u) (k3 : isLv D t → 0 ≤ w ∧ w ≤ 5 → ∀ u, frm modC s u → zI u 252 3 = 0 → mRel u D H T → Q (rI (D (157 + 6 * t + w))) u) : wp S 241 0 [(0, rf 252), (1, iv t), (2, iv w)] [] s Q := by
  have hl := m_live (t := t) h
  refine v_Model_tableInfo_0 ⟨ht, fun hc => ⟨hw, fun hc2 => ⟨⟨by omega, by omega⟩, ?_⟩, fun hc2 => k2 (hl.mp hc) hc2 _ (frm_I frm_refl (by unfold modC; omega)) zI_eq (mRel_252 h ⟨by omega, by omega⟩)⟩, fun hc => k1 (fun hh => hc (hl.mpr hh)) _ (frm_I frm_refl (by unfold modC; omega)) zI_eq (mRel_252 h ⟨by omega, by omega⟩)⟩
  rw [h.1 _ (by omega) (by omega)]
  exact k3 (hl.mp hc) hc2 _ (frm_I frm_refl (by unfold modC; omega)) zI_eq (mRel_252 h ⟨by omega, by omega⟩)
/-! removeTable -/
theorem X_removeTable {t : Int} (hA : okA D) (hH : okHs H) (h : cRel s D H T) (ht : rng t) (k1 : ¬ isLv D t → Q (rT 2) (zbump s)) (k2 : isLv D t → ∀ u, frm clsC s u → cRel u (upD D (157 + 6 * t) (-1)) (pushH H D) T → Q (rI (tBy D t)) u) : wp S 111 0 [(0, rf 2), (1, iv t)] [] s Q := by
  have hl := (c_live hA h t).1
  refine v_RL_removeTable_0 ⟨ht, fun hc => X_save hA hH h fun w hfw hcw => zkU_U ⟨⟨hc.1, hc.2.1⟩, ?_⟩, fun hc => k1 fun hh => hc (hl.mpr hh)⟩
  have hv := hl.mp hc
  have hq := (cTb_live hcw.1 hv.1 hv.2.1).2 hv.2.2 5 (by omega) (by omega)
  rw [show (5 : Int) + 1 = 6 by omega] at hq
  rw [hq]
  have hf : frm (fun x => x = 31 + t) w (zwI w (31 + t) 0 0) := frm_I frm_refl rfl
  obtain ⟨⟨a1, a2, a3, a4⟩, b, c, d, e⟩ := hcw
  have hD0 := hA.1.1
  have hag : agR D (upD D (157 + 6 * t) (-1)) := fun j q0 q1 => upD_ne (by have := hv.1; omega)
  have e0 : upD D (157 + 6 * t) (-1) 0 = D 0 := upD_ne (by have := hv.1; omega)
  have hHp := okHs_H (okHs_push hH hA)
  have ht0 := hv.1
  have ht1 := hv.2.1
  refine k2 hv _ (frm_trans hfw (frm_mono hf fun x hx => by unfold clsC; omega)) ⟨⟨?_, ?_, fun u u0 u1 => ?_, fun j q0 q1 => ?_⟩, ?_, ⟨?_, ⟨?_, c.2.1.2⟩, fun i hi => ?_⟩, cTx_fr d hf ⟨by omega, by omega⟩, .inl ?_⟩
  · rw [e0, fI hf (by omega)]; exact a1
  · exact agR_cFl hA.1 hag (cFl_fr a2 hf fun x x0 x1 => by omega)
  · by_cases hut : u = t
    · subst hut
      refine .inl ⟨upD_eq, ?_⟩
      rw [show (3 : Int) + 28 + u = 31 + u by omega, zI_eq]
    · have hz := cTb_fr (a3 u u0 u1) hf (by omega)
      unfold cTb tRc at hz ⊢
      rw [upD_ne (by omega)]
      rcases hz with hz | ⟨z1, z2, z3⟩
      · exact .inl hz
      · exact .inr ⟨z1, z2, fun k k0 k1 => by rw [upD_ne (by omega)]; exact z3 k k0 k1⟩
  · rw [upD_ne (by omega), fI hf (by omega)]; exact a4 j q0 q1
  · exact agR_cSh hA.1 hag (cSh_fr b hf fun x x0 x1 => by omega)
  · rw [fI hf (by omega)]; exact c.1
  · rw [fI hf (by omega)]; exact c.2.1.1
  · rw [fI hf (by omega)]; exact cSt_fr (c.2.2 i hi) (hHp i hi).1.2 hf fun x x0 x1 => by omega
  · rw [fI hf (by omega)]; exact e
theorem M_removeTable {t : Int} (h : mRel s D H T) (ht : rng t) (k1 : ¬ isLv D t → ∀ u, frm modC s u → zI u 252 3 = 1 → mRel u D H T → Q (rI 0) u) (k2 : isLv D t → ∀ u, frm modC s u → zI u 252 3 = 0 → mRel u (upD D (157 + 6 * t) (-1)) (pushH H D) T → Q (rI (tBy D t)) u) : wp S 238 0 [(0, rf 252), (1, iv t)] [] s Q := by
  have hl := m_live (t := t) h
  refine v_Model_removeTable_0 ⟨ht, fun hc => ?_, fun hc => ?_⟩
  · have hv := hl.mp hc
    rw [bi_F (fun q => q hc)]
    refine M_saves (mRel_252 h (k := 3) ⟨by omega, by omega⟩) fun u hfu h3 hmu => zkU_U ⟨⟨by omega, by omega⟩, ⟨by omega, by omega⟩, ?_⟩
    rw [hmu.1 _ (by omega) (by omega)]
    refine k2 hv _ (frm_I (frm_trans (frm_I frm_refl (by unfold modC; omega)) hfu) (by unfold modC; omega)) (by rw [zI_ne (by omega), h3, zI_eq]) (mRel_D hmu (frm_I frm_refl rfl) fun j q0 q1 => ?_)
    by_cases hj : j = 157 + 6 * t
    · subst hj; rw [zI_eq, upD_eq]
    · rw [zI_nj hj, upD_ne hj]; exact hmu.1 j q0 q1
  · rw [bi_T hc]
    exact k1 (fun hh => hc (hl.mpr hh)) _ (frm_I frm_refl (by unfold modC; omega)) zI_eq (mRel_252 h ⟨by omega, by omega⟩)
theorem remove_okA {t : Int} (hA : okA D) (hv : isLv D t) : okA (upD D (157 + 6 * t) (-1)) := by
  obtain ⟨h1, h2, h3, h4⟩ := hA
  have ht0 := hv.1
  have ht1 := hv.2.1
  have hag : agR D (upD D (157 + 6 * t) (-1)) := fun j q0 q1 => upD_ne (by omega)
  have e0 : upD D (157 + 6 * t) (-1) 0 = D 0 := upD_ne (by omega)
  have hkeep : ∀ u, 0 ≤ u → u < 3 → u ≠ t → ∀ k, 0 ≤ k → k < 6 → upD D (157 + 6 * t) (-1) (157 + 6 * u + k) = D (157 + 6 * u + k) := fun u u0 u1 hut k k0 k1 => upD_ne (by omega)
  have hacc : ∀ u, 0 ≤ u → u < 3 → u ≠ t → tRc (upD D (157 + 6 * t) (-1)) u = tRc D u ∧ tNr (upD D (157 + 6 * t) (-1)) u = tNr D u ∧ tLy (upD D (157 + 6 * t) (-1)) u = tLy D u ∧ tOr (upD D (157 + 6 * t) (-1)) u = tOr D u ∧ tBs (upD D (157 + 6 * t) (-1)) u = tBs D u ∧ tBy (upD D (157 + 6 * t) (-1)) u = tBy D u := fun u u0 u1 hut =>
    ⟨by have := hkeep u u0 u1 hut 0 (by omega) (by omega); rw [Int.add_zero] at this; exact this, hkeep u u0 u1 hut 1 (by omega) (by omega), hkeep u u0 u1 hut 2 (by omega) (by omega), hkeep u u0 u1 hut 3 (by omega) (by omega), hkeep u u0 u1 hut 4 (by omega) (by omega), hkeep u u0 u1 hut 5 (by omega) (by omega)⟩
  refine ⟨agR_okD h1 hag, fun j q0 q1 => by rw [upD_ne (by omega)]; exact h2 j q0 q1, fun u u0 u1 => ?_, fun u w u0 u1 w0 w1 huw hu hw => ?_⟩
  · by_cases hut : u = t
    · subst hut; exact .inl upD_eq
    · obtain ⟨a1, a2, a3, a4, a5, a6⟩ := hacc u u0 u1 hut
      rcases h3 u u0 u1 with hq | hq
      · exact .inl (a1.trans hq)
      · obtain ⟨k1, k2, k3, k4, k5, k6, k7, k8⟩ := hq
        right
        have hz := agR_rec hag (r := tRc D u) k1.1 (by have := h1.1; omega)
        unfold okTab tG
        rw [a1, a2, a3, a4, a5, a6, e0, hz.2.1, agR_shp h1 hag k1.1 k1.2]
        exact ⟨k1, k2, k3, k4, k5, k6, k7, k8⟩
  · have hut : u ≠ t := fun hc => hu (by rw [hc]; exact upD_eq)
    have hwt : w ≠ t := fun hc => hw (by rw [hc]; exact upD_eq)
    obtain ⟨a1, a2, a3, a4, a5, a6⟩ := hacc u u0 u1 hut
    obtain ⟨b1, b2, b3, b4, b5, b6⟩ := hacc w w0 w1 hwt
    rw [a5, a6, b5, b6]
    exact h4 u w u0 u1 w0 w1 huw (by rw [← a1]; exact hu) (by rw [← b1]; exact hw)
end OPS5
