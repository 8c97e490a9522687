/-! ===== compact of the reference ===== -/
section OPS32
variable {S : Option (Nat × (Nat → Int32))} {Q : Option Value ⊕ Nat → zSt → Prop} {s : zSt} {D F : Int → Int} {H : List (Int → Int)} {T : List Int}
theorem M_comp_30 {e last x1 x4 : Int} (hI : cmI D F e last) (hm : mD s F) (hlr : rng last) (k1 : nxtD F e 3 0 (-1) = -1 → wp S 261 18 [(0, rf 252), (1, iv x1), (2, iv e), (3, iv last), (4, iv (x4 + 1))] [] s Q) (k2 : nxtD F e 3 0 (-1) ≠ -1 → wp S 261 123 [(0, rf 252), (1, iv x1), (3, iv (tBs F (nxtD F e 3 0 (-1)))), (4, iv x4), (5, iv (nxtD F e 3 0 (-1))), (6, iv (tBs F (nxtD F e 3 0 (-1)))), (7, iv (zup e 16)), (8, iv 0)] [] s Q) (n : Nat) : ∀ v c : Int, 0 ≤ v → v + n = 3 → (c = -1 ∨ (isLv F c ∧ e ≤ tBs F c)) → nxtD F e 3 0 (-1) = nxtD F e n v c → wp S 261 30 [(0, rf 252), (1, iv x1), (2, iv e), (3, iv last), (4, iv x4), (5, iv c), (6, iv v)] [] s Q := by
  obtain ⟨hA, hag, hE, hu⟩ := hI
  have hbs : ∀ c : Int, 0 ≤ c → c < 3 → zI s 253 (157 + 6 * c + 4) = tBs F c := fun c c0 c1 => hm _ (by omega) (by omega)
  induction n with
  | zero =>
    intro v c h0 h1 hc heq
    have heq' : nxtD F e 3 0 (-1) = c := heq
    rw [heq'] at k1 k2
    have hcr : rng c := by rcases hc with q | q; rw [q]; exact ⟨by decide, by decide⟩; exact ⟨by have := q.1.1; omega, by have := q.1.2.1; omega⟩
    refine v_Model_compact_30 ⟨⟨by omega, by omega⟩, fun _ => ⟨hcr, fun hn => k1 hn, fun hn => ?_⟩, fun hc => by omega⟩
    have hcl : isLv F c := by rcases hc with q | q; exact absurd q hn; exact q.1
    have hc0 := hcl.1
    have hc1 := hcl.2.1
    rw [hbs c hc0 hc1]
    exact ⟨⟨by omega, by omega⟩, ⟨by omega, by omega⟩, by omega, k2 hn⟩
  | succ n ihn =>
    intro v c h0 h1 hc heq
    have hv3 : v < 3 := by omega
    have hcr : rng c := by rcases hc with q | q; rw [q]; exact ⟨by decide, by decide⟩; exact ⟨by have := q.1.1; omega, by have := q.1.2.1; omega⟩
    have hrv : zI s 253 (157 + 6 * v) = tRc F v := hm _ (by omega) (by omega)
    have hkeep : ¬ (tRc F v ≠ -1 ∧ e ≤ tBs F v ∧ (c = -1 ∨ tBs F v < tBs F c)) → wp S 261 30 [(0, rf 252), (1, iv x1), (2, iv e), (3, iv last), (4, iv x4), (5, iv c), (6, iv (v + 1))] [] s Q := fun hn =>
      ihn (v + 1) c (by omega) (by omega) hc (heq.trans (by show nxtD F e n (v + 1) _ = _; rw [if_neg hn]))
    have htake : (tRc F v ≠ -1 ∧ e ≤ tBs F v ∧ (c = -1 ∨ tBs F v < tBs F c)) → wp S 261 30 [(0, rf 252), (1, iv x1), (2, iv e), (3, iv last), (4, iv x4), (5, iv v), (6, iv (v + 1))] [] s Q := fun hn =>
      ihn (v + 1) v (by omega) (by omega) (.inr ⟨⟨h0, hv3, hn.1⟩, hn.2.1⟩) (heq.trans (by show nxtD F e n (v + 1) _ = _; rw [if_pos hn]))
    refine v_Model_compact_30 ⟨⟨by omega, by omega⟩, fun hc => by omega, fun _ => ⟨fun hno => hkeep fun hn => hno ⟨h0, by omega, by rw [hrv]; exact hn.1⟩, fun hyes => ⟨⟨by omega, by omega⟩, hlr, ?_⟩⟩⟩
    have hl : tRc F v ≠ -1 := by rw [← hrv]; exact hyes.2.2
    have hby := tBy_pos hA ⟨h0, hv3, hl⟩
    rw [hbs v h0 hv3]
    refine ⟨fun hle => hkeep fun hn => ?_, fun hgt => ⟨hcr, fun hq => htake ⟨hl, ?_, .inl hq⟩, fun hq => ?_⟩⟩
    · rcases hu v ⟨h0, hv3, hl⟩ with q | q
      · have := hn.2.1; omega
      · omega
    · rcases hu v ⟨h0, hv3, hl⟩ with q | q <;> omega
    · have he : e ≤ tBs F v := by rcases hu v ⟨h0, hv3, hl⟩ with q | q <;> omega
      have hcl : isLv F c := by rcases hc with q | q; exact absurd q hq; exact q.1
      have hc0 := hcl.1
      have hc1 := hcl.2.1
      rw [hbs c hc0 hc1]
      refine ⟨⟨by omega, by omega⟩, fun hle => hkeep fun hn => ?_, fun hlt => htake ⟨hl, he, .inr hlt⟩⟩
      rcases hn.2.2 with q | q
      · exact hq q
      · omega
theorem M_comp_123 {v b x1 x4 : Int} {a : Int} (ha : a = tBs F v) (hA : okA F) (hv : isLv F v) (hb : 0 ≤ b ∧ b ≤ tBs F v) (n : Nat) : ∀ (i : Nat) (s : zSt), (i : Int) + n = tBy F v → mRel s (cpyD F (tBs F v) b i) H T → (∀ u, frm (fun x => x = 253) s u → mRel u (movD F v b) H T → (b ≠ tBs F v → wp S 261 18 [(0, rf 252), (1, iv (x1 + 1)), (2, iv (b + tBy F v)), (3, iv (tBs F v)), (4, iv (x4 + 1))] [] u Q) ∧ (b = tBs F v → wp S 261 18 [(0, rf 252), (1, iv (x1 + 0)), (2, iv (b + tBy F v)), (3, iv (tBs F v)), (4, iv (x4 + 1))] [] u Q)) → wp S 261 123 [(0, rf 252), (1, iv x1), (3, iv (tBs F v)), (4, iv x4), (5, iv v), (6, iv a), (7, iv b), (8, iv i)] [] s Q := by
  subst ha
  have hT := isLv_ok hA hv
  have v0 := hv.1
  have v1 := hv.2.1
  have hbs := hT.2.2.2.2.2.1
  have hbe := hT.2.2.2.2.2.2.2
  have hby := tBy_pos hA hv
  have e5 : ∀ (i : Nat) (s : zSt), mRel s (cpyD F (tBs F v) b i) H T → zI s 253 (157 + 6 * v + 5) = tBy F v := fun i s hm => (hm.1 _ (by omega) (by omega)).trans (cpy_out i (.inl (by omega)))
  induction n with
  | zero =>
    intro i s hi hm k1
    have h5 := e5 i s hm
    refine v_Model_compact_123 ⟨⟨by omega, by omega⟩, ⟨by omega, by omega⟩, ?_⟩
    rw [h5]
    have hf : frm (fun x => x = 253) s (zwI s 253 (157 + 6 * v + 4) b) := frm_I frm_refl rfl
    have hmm : mRel (zwI s 253 (157 + 6 * v + 4) b) (movD F v b) H T := mRel_D hm hf (by
      unfold movD
      rw [show (tBy F v).toNat = i by omega]
      exact wI_up hm.1)
    have hz := k1 _ hf hmm
    exact ⟨fun _ => ⟨⟨by omega, by omega⟩, ⟨by omega, by omega⟩, ⟨by omega, by omega⟩, hz.1, hz.2⟩, fun hc => by omega⟩
  | succ n ihn =>
    intro i s hi hm k1
    have h5 := e5 i s hm
    refine v_Model_compact_123 ⟨⟨by omega, by omega⟩, ⟨by omega, by omega⟩, ?_⟩
    rw [h5]
    refine ⟨fun hc => by omega, fun _ => ⟨⟨by omega, by omega⟩, ⟨by omega, by omega⟩, ?_⟩⟩
    rw [hm.1 (175 + tBs F v + i) (by omega) (by omega)]
    have hf : frm (fun x => x = 253) s (zwI s 253 (175 + b + i) (cpyD F (tBs F v) b i (175 + tBs F v + i))) := frm_I frm_refl rfl
    have hmm : mRel (zwI s 253 (175 + b + i) (cpyD F (tBs F v) b i (175 + tBs F v + i))) (cpyD F (tBs F v) b (i + 1)) H T := mRel_D hm hf (wI_up hm.1)
    exact ihn (i + 1) _ (by omega) hmm fun u hfu hmu => k1 u (frm_trans hf hfu) hmu
theorem M_comp_18 (hA : okA D) (k1 : ∀ u, frm modC s u → zI u 252 3 = 0 → mRel u (cmD D 3).1 H T → Q (rI (cmD D 3).2.1) u) (n : Nat) : ∀ (i : Nat) (s' : zSt) (last : Int), i + n = 3 → frm modC s s' → zI s' 252 3 = 0 → mRel s' (cmD D i).1 H T → rng last → cmI D (cmD D i).1 (cmD D i).2.2 last → wp S 261 18 [(0, rf 252), (1, iv (cmD D i).2.1), (2, iv (cmD D i).2.2), (3, iv last), (4, iv i)] [] s' Q := by
  induction n with
  | zero =>
    intro i s' last hi hf h3 hm hlr hI
    rw [show (3 : Nat) = i by omega] at k1
    exact v_Model_compact_18 ⟨⟨by omega, by omega⟩, fun _ => k1 s' hf h3 hm, fun hc => by omega⟩
  | succ n ihn =>
    intro i s' last hi hf h3 hm hlr hI
    have hE := hI.2.2.1
    obtain ⟨a1, a2, a3⟩ := nxt_p (F := (cmD D i).1) (e := (cmD D i).2.2) 3 0 (-1) (by omega) (by omega) (.inl rfl)
    refine v_Model_compact_18 ⟨⟨by omega, by omega⟩, fun hc => by omega, fun _ => ?_⟩
    refine M_comp_30 (F := (cmD D i).1) hI hm.1 hlr (fun hn => ?_) (fun hn => ?_) 3 0 (-1) (by omega) (by omega) (.inl rfl) rfl
    · have hst := stp_none hn 1
      have hz := ihn (i + 1) s' last (by omega) hf h3 (by rw [hst]; exact hm) hlr (by rw [hst]; exact hI)
      rw [hst] at hz
      exact hz
    · have hst := stp_some hn
      have hih := ihn (i + 1)
      rw [hst] at hih
      dsimp only at hih
      rcases a1 with q | ⟨q1, q2⟩
      · exact absurd q hn
      have hmin := fun u (hu : isLv (cmD D i).1 u) he => (a2 u hu.1 hu.2.1 hu.2.2 he).2
      generalize hv : nxtD (cmD D i).1 (cmD D i).2.2 3 0 (-1) = v at *
      obtain ⟨z1, z2⟩ := mov_ok hI q1 q2 hmin
      have hT := isLv_ok hI.1 q1
      have hby := tBy_pos hI.1 q1
      have hbe := hT.2.2.2.2.2.2.2
      refine M_comp_123 (H := H) (T := T) rfl hI.1 q1 z1 (tBy (cmD D i).1 v).toNat 0 s' (by omega) hm fun u hfu hmu => ?_
      have hfs : frm modC s u := frm_trans hf (frm_mono hfu fun x hx => by unfold modC; omega)
      have h3u : zI u 252 3 = 0 := (fI hfu (by omega)).trans h3
      have hz := hih u (tBs (cmD D i).1 v) (by omega) hfs h3u hmu ⟨by omega, by omega⟩ z2
      refine ⟨fun hne => ?_, fun heq => ?_⟩
      · rw [if_neg hne] at hz
        exact hz
      · rw [if_pos heq] at hz
        exact hz
theorem M_compact (hA : okA D) (h : mRel s D H T) (k1 : ∀ u, frm modC s u → zI u 252 3 = 0 → mRel u (cmD D 3).1 (pushH H D) T → Q (rI (cmD D 3).2.1) u) : wp S 261 0 [(0, rf 252)] [] s Q := by
  refine v_Model_compact_0 (M_saves (mRel_252 h (k := 3) (v := 0) ⟨by omega, by omega⟩) fun w hfw h3 hmw => zkU_U ?_)
  have hf : frm modC s w := frm_trans (frm_I frm_refl (by unfold modC; omega)) hfw
  refine M_comp_18 (H := pushH H D) (T := T) hA k1 3 0 w (-1) rfl hf (by rw [h3, zI_eq]) hmw ⟨by decide, by decide⟩ ?_
  exact ⟨hA, fun j _ _ => rfl, ⟨Int.le_refl _, by show (0 : Int) ≤ 1024; omega⟩, fun u hu => .inr ⟨(isLv_ok hA hu).2.2.2.2.2.1.1, by have := (isLv_ok hA hu).2.2.2.2.2.1.1; show (-1 : Int) < tBs D u; omega⟩⟩
end OPS32
