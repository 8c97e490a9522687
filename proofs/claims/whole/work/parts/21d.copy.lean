/-! ===== copyRow ===== -/
section OPS21
variable {S : Option (Nat × (Nat → Int32))} {Q : Option Value ⊕ Nat → zSt → Prop} {s : zSt} {D : Int → Int} {H : List (Int → Int)} {T : List Int}
theorem fL {P : Int → Prop} {s t : zSt} {a j : Int} (h : frm P s t) (hn : ¬ P a) : zL t a j = zL s a j := (h.1 a j hn).2
theorem valD_vl {D : Int → Int} {t row : Int} {k : Nat} : vlG D D t row k = valD D t row k := rfl
theorem inP_E {D E : Int → Int} {t : Int} (hA : okA D) (hv : isLv D t) (hag : agT D E) {row : Int} {k : Nat} (hk : inP D t (row, k)) : k < (gV (tG E t)).length ∧ inRow E t row ∧ isLv E t := by
  obtain ⟨g1, g2, g3⟩ := tG_ag hA hag hv
  exact ⟨by rw [g2]; exact hk.2, ⟨hk.1.1, by rw [g3]; exact hk.1.2⟩, g1⟩
theorem XS_read {t row : Int} {k : Nat} {L : List ((Int × Nat) × Int64)} (hA : okA D) (hv : isLv D t) (hL : ∀ p ∈ L, inP D t p.1) (ho : vOpen s (seqW D t D L) t) (hk : inP D t (row, k)) (hn : ∀ p ∈ L, p.1 ≠ (row, k)) (k1 : Q (rL (valD D t row k)) s) : wp S 126 0 [(0, rf 48), (1, rf 6), (2, iv row), (3, iv k)] [] s Q := by
  obtain ⟨h1, h2⟩ := seq_okA hA hv hL
  obtain ⟨g1, g2, g3⟩ := inP_E hA hv h1 hk
  refine X_read h2 g3 ho g1 g2 ?_
  rw [vl_ag hA hv h1, seq_val hA hv hk L D hL hn]
  exact k1
theorem XS_write {t row : Int} {k : Nat} {v : Int64} {L : List ((Int × Nat) × Int64)} (hA : okA D) (hv : isLv D t) (hL : ∀ p ∈ L, inP D t p.1) (ho : vOpen s (seqW D t D L) t) (hk : inP D t (row, k)) (k1 : ∀ u, frm (fun x => x = 6) s u → vOpen u (seqW D t D (L ++ [((row, k), v)])) t → Q rU u) : wp S 131 0 [(0, rf 48), (1, rf 6), (2, iv row), (3, iv k), (4, .long v)] [] s Q := by
  obtain ⟨h1, h2⟩ := seq_okA hA hv hL
  obtain ⟨g1, g2, g3⟩ := inP_E hA hv h1 hk
  refine X_write h2 g3 ho g1 g2 fun u hfu hou => ?_
  rw [wr_ag hA hv h1] at hou
  exact k1 u hfu (by rw [seqW_snoc]; exact hou)
theorem MS_writes {t row : Int} {k : Nat} {v : Int64} {L : List ((Int × Nat) × Int64)} (hA : okA D) (hv : isLv D t) (hL : ∀ p ∈ L, inP D t p.1) (h : mRel s (seqW D t D L) H T) (hly : mLay s (seqW D t D L) (seqW D t D L 0)) (hk : inP D t (row, k)) (k1 : ∀ u, frm (fun x => x = 253) s u → mRel u (seqW D t D (L ++ [((row, k), v)])) H T → mLay u (seqW D t D (L ++ [((row, k), v)])) (seqW D t D (L ++ [((row, k), v)]) 0) → Q rU u) : wp S 252 0 [(0, rf 252), (1, iv t), (2, iv row), (3, iv k), (4, .long v)] [] s Q := by
  obtain ⟨h1, h2⟩ := seq_okA hA hv hL
  obtain ⟨g1, g2, g3⟩ := inP_E hA hv h1 hk
  refine M_writes h2 h hly g3 g1 g2 fun u hfu hmu hlu => ?_
  rw [wr_ag hA hv h1] at hmu hlu
  rw [seqW_snoc] at k1
  exact k1 u hfu hmu hlu
/-- all values of a table, as the reference takes them -/
def mTk (s : zSt) (D : Int → Int) (t : Int) (n : Nat) : Prop := ∀ i : Nat, i < n → ∀ k : Nat, k < (gV (tG D t)).length → zL s 272 (40 * i + k) = valD D t i k
theorem mTk_fr {P : Int → Prop} {u : zSt} {t : Int} {n : Nat} (h : mTk s D t n) (hf : frm P s u) (hn : ¬ P 272) : mTk u D t n := fun i hi k hk => (fL hf hn).trans (h i hi k hk)
theorem M_takes_14 {t : Int} {i : Nat} (hA : okA D) (hv : isLv D t) (hi : (i : Int) < tNr D t) (n : Nat) : ∀ (k : Nat) (s : zSt), k + n = (gV (tG D t)).length → mRel s D H T → mLay s D (D 0) → mTk s D t i → (∀ k' : Nat, k' < k → zL s 272 (40 * i + k') = valD D t i k') → (∀ u, frm (fun x => x = 272) s u → mTk u D t (i + 1) → wp S 258 2 [(0, rf 252), (1, iv t), (2, iv (i + 1))] [] u Q) → wp S 258 14 [(0, rf 252), (1, iv t), (2, iv i), (3, iv k)] [] s Q := by
  have hT := isLv_ok hA hv
  have h40 : (gV (tG D t)).length ≤ 40 := (okG_shp hA.1 hT.1.1 hT.1.2).2.1
  have hD0 := hA.1.1
  have h12 := hT.2.2.1
  have t0 := hv.1
  have t1 := hv.2.1
  have hr0 := hT.1.1
  have hr1 := hT.1.2
  induction n with
  | zero =>
    intro k s hk hm hly htk hrow k1
    have e1 : zI s 253 (157 + 6 * t + 0) = tRc D t := by rw [Int.add_zero]; exact hm.1 _ (by omega) (by omega)
    have e2 : zI s 256 (tRc D t) = ((gV (tG D t)).length : Int) := (hly _ hr0 hr1).2.2.1
    refine v_Model_takes_14 ⟨⟨by omega, by omega⟩, ?_⟩
    rw [e1, e2]
    refine ⟨⟨by omega, by omega⟩, ⟨by omega, by omega⟩, fun _ => k1 s frm_refl fun a ha b hb => ?_, fun hc => by omega⟩
    by_cases hai : a < i
    · exact htk a hai b hb
    · have : a = i := by omega
      subst this
      exact hrow b (by omega)
  | succ n ihn =>
    intro k s hk hm hly htk hrow k1
    have e1 : zI s 253 (157 + 6 * t + 0) = tRc D t := by rw [Int.add_zero]; exact hm.1 _ (by omega) (by omega)
    have e2 : zI s 256 (tRc D t) = ((gV (tG D t)).length : Int) := (hly _ hr0 hr1).2.2.1
    have h40' : (gV (tG D t)).length ≤ 40 := h40
    refine v_Model_takes_14 ⟨⟨by omega, by omega⟩, ?_⟩
    rw [e1, e2]
    refine ⟨⟨by omega, by omega⟩, ⟨by omega, by omega⟩, fun hc => by omega, fun _ => M_val hA hm hly hv (by omega) ⟨by omega, hi⟩ (zkL_L ⟨⟨by omega, by omega⟩, ?_⟩)⟩
    have hf : frm (fun x => x = 272) s (zwL s 272 (40 * i + k) (valD D t i k)) := frm_L frm_refl rfl
    have hz := ihn (k + 1) (zwL s 272 (40 * i + k) (valD D t i k)) (by omega) (mRel_fr hm hf fun a a0 a1 => by omega) (mLay_fr hly hf fun a a0 a1 => by omega) (fun a ha b hb => ?_) (fun b hb => ?_) fun u hfu htu => k1 u (frm_trans hf hfu) htu
    · exact hz
    · rw [zL_wL, if_neg (by omega)]; exact htk a ha b hb
    · rw [zL_wL]
      by_cases hbk : b = k
      · subst hbk; rw [if_pos ⟨rfl, rfl⟩]
      · rw [if_neg (by omega)]; exact hrow b (by omega)
theorem M_takes_2 {t : Int} (hA : okA D) (hv : isLv D t) (n : Nat) : ∀ (i : Nat) (s : zSt), (i : Int) + n = tNr D t → mRel s D H T → mLay s D (D 0) → mTk s D t i → (∀ u, frm (fun x => x = 272) s u → mTk u D t (tNr D t).toNat → Q rU u) → wp S 258 2 [(0, rf 252), (1, iv t), (2, iv i)] [] s Q := by
  have hT := isLv_ok hA hv
  have h12 := hT.2.2.1
  have t0 := hv.1
  have t1 := hv.2.1
  induction n with
  | zero =>
    intro i s hi hm hly htk k1
    have e1 : zI s 253 (157 + 6 * t + 1) = tNr D t := hm.1 _ (by omega) (by omega)
    refine v_Model_takes_2 ⟨⟨by omega, by omega⟩, ⟨by omega, by omega⟩, fun _ => k1 s frm_refl (by rw [show (tNr D t).toNat = i by omega]; exact htk), fun hc => by omega⟩
  | succ n ihn =>
    intro i s hi hm hly htk k1
    have e1 : zI s 253 (157 + 6 * t + 1) = tNr D t := hm.1 _ (by omega) (by omega)
    refine v_Model_takes_2 ⟨⟨by omega, by omega⟩, ⟨by omega, by omega⟩, fun hc => by omega, fun _ => M_takes_14 hA hv (by omega) (gV (tG D t)).length 0 s (by omega) hm hly htk (fun k' h => absurd h (Nat.not_lt_zero _)) fun u hfu htu => ?_⟩
    exact ihn (i + 1) u (by omega) (mRel_fr hm hfu fun a a0 a1 => by omega) (mLay_fr hly hfu fun a a0 a1 => by omega) htu fun w hfw htw => k1 w (frm_trans hfu hfw) htw
theorem M_takes {t : Int} (hA : okA D) (hv : isLv D t) (hm : mRel s D H T) (hly : mLay s D (D 0)) (k1 : ∀ u, frm (fun x => x = 272) s u → mTk u D t (tNr D t).toNat → Q rU u) : wp S 258 0 [(0, rf 252), (1, iv t)] [] s Q :=
  v_Model_takes_0 (M_takes_2 hA hv (tNr D t).toNat 0 s (by have := (isLv_ok hA hv).2.2.1; omega) hm hly (fun i hi => absurd hi (Nat.not_lt_zero _)) k1)
/-- the writes of copyRow, and how many leaves they change -/
def cpL (D : Int → Int) (t f o : Int) (n : Nat) : List ((Int × Nat) × Int64) := (List.range n).map fun l => ((o, l), valD D t f l)
def cpN (D : Int → Int) (t f o : Int) : Nat → Int
  | 0 => 0
  | k + 1 => cpN D t f o k + (if valD D t f k = valD D t o k then 0 else 1)
theorem cpL_s {D : Int → Int} {t f o : Int} {n : Nat} : cpL D t f o (n + 1) = cpL D t f o n ++ [((o, n), valD D t f n)] := by
  unfold cpL
  rw [List.range_succ, List.map_append]
  rfl
theorem cpN_b {D : Int → Int} {t f o : Int} : ∀ n : Nat, 0 ≤ cpN D t f o n ∧ cpN D t f o n ≤ n := by
  intro n
  induction n with
  | zero => exact ⟨by show (0 : Int) ≤ 0; omega, by show (0 : Int) ≤ 0; omega⟩
  | succ n ihn =>
    show 0 ≤ cpN D t f o n + _ ∧ cpN D t f o n + _ ≤ _
    split <;> omega
theorem cpL_in {D : Int → Int} {t f o : Int} {n : Nat} (h0 : inRow D t o) (hn : n ≤ (gV (tG D t)).length) : ∀ p ∈ cpL D t f o n, inP D t p.1 := fun p hp => by
  obtain ⟨l, hl, rfl⟩ := List.mem_map.mp hp
  have hlt := List.mem_range.mp hl
  exact ⟨h0, by show l < _; omega⟩
theorem cpL_ne {D : Int → Int} {t f o row : Int} {n k : Nat} (hk : n ≤ k) : ∀ p ∈ cpL D t f o n, p.1 ≠ (row, k) := fun p hp => by
  obtain ⟨l, hl, rfl⟩ := List.mem_map.mp hp
  have hlt := List.mem_range.mp hl
  intro hc
  have : l = k := congrArg Prod.snd hc
  omega
theorem X_copy_27 {t f o : Int} (hA : okA D) (hv : isLv D t) (hf : inRow D t f) (ho : inRow D t o) (n : Nat) : ∀ (k : Nat) (s : zSt), k + n = (gV (tG D t)).length → vOpen s (seqW D t D (cpL D t f o k)) t → (∀ u, frm (fun x => x = 6) s u → vOpen u (seqW D t D (cpL D t f o (gV (tG D t)).length)) t → Q (rI (cpN D t f o (gV (tG D t)).length)) u) → wp S 152 27 [(0, rf 2), (2, iv f), (3, iv o), (4, iv (cpN D t f o k)), (5, iv k)] [] s Q := by
  have hT := isLv_ok hA hv
  have h40 : (gV (tG D t)).length ≤ 40 := (okG_shp hA.1 hT.1.1 hT.1.2).2.1
  induction n with
  | zero =>
    intro k s hk hop k1
    have hL := cpL_in (f := f) (n := k) ho (by omega)
    have e3 := hop.2.2.1.2.1
    rw [(geo_ag hA hv (seq_okA hA hv hL).1).1] at e3
    refine v_RL_copyRow_27 ⟨⟨by omega, by omega⟩, ?_⟩
    rw [e3]
    refine ⟨fun _ => ?_, fun hc => by omega⟩
    rw [show (gV (tG D t)).length = k by omega] at k1
    exact k1 s frm_refl hop
  | succ n ihn =>
    intro k s hk hop k1
    have hL := cpL_in (f := f) (n := k) ho (by omega)
    have e3 := hop.2.2.1.2.1
    rw [(geo_ag hA hv (seq_okA hA hv hL).1).1] at e3
    refine v_RL_copyRow_27 ⟨⟨by omega, by omega⟩, ?_⟩
    rw [e3]
    refine ⟨fun hc => by omega, fun _ => XS_read hA hv hL hop ⟨hf, by omega⟩ (cpL_ne (Nat.le_refl _)) (zkL_L (XS_read hA hv hL hop ⟨ho, by omega⟩ (cpL_ne (Nat.le_refl _)) (zkL_L ⟨fun hz => ?_, fun hz => ?_⟩)))⟩
    · refine XS_write hA hv hL hop ⟨ho, by omega⟩ fun u hfu hou => zkU_U ?_
      have hy := ihn (k + 1) u (by omega) (by rw [cpL_s]; exact hou) fun w hfw how => k1 w (frm_trans hfu hfw) how
      have e : cpN D t f o (k + 1) = cpN D t f o k := by show cpN D t f o k + _ = _; rw [if_pos (zcmp_0.mp hz)]; omega
      rw [e] at hy
      exact hy
    · refine XS_write hA hv hL hop ⟨ho, by omega⟩ fun u hfu hou => zkU_U ?_
      have hy := ihn (k + 1) u (by omega) (by rw [cpL_s]; exact hou) fun w hfw how => k1 w (frm_trans hfu hfw) how
      have e : cpN D t f o (k + 1) = cpN D t f o k + 1 := by show cpN D t f o k + _ = _; rw [if_neg fun hq => hz (zcmp_0.mpr hq)]
      rw [e] at hy
      exact hy
theorem X_copyRow {t f o : Int} (hA : okA D) (hH : okHs H) (h : cRel s D H T) (ht : rng t) (hf : rng f) (ho : rng o) (k1 : ¬ (isLv D t ∧ inRow D t f ∧ inRow D t o) → Q (rT 2) (zbump s)) (k2 : isLv D t → inRow D t f → inRow D t o → ∀ u, frm clsC s u → cRel u (seqW D t D (cpL D t f o (gV (tG D t)).length)) (pushH H D) T → Q (rI (cpN D t f o (gV (tG D t)).length)) u) : wp S 152 0 [(0, rf 2), (1, iv t), (2, iv f), (3, iv o)] [] s Q := by
  refine v_RL_copyRow_0 ⟨ht, hf, fun hc => ⟨ho, fun hc2 => ?_, fun hc2 => k1 fun hh => hc2 ((c_row hA h t o).mpr ⟨hh.1, hh.2.2⟩)⟩, fun hc => k1 fun hh => hc ((c_row hA h t f).mpr ⟨hh.1, hh.2.1⟩)⟩
  obtain ⟨hv, h1⟩ := (c_row hA h t f).mp hc
  obtain ⟨-, h2⟩ := (c_row hA h t o).mp hc2
  refine X_save hA hH h fun w hfw hcw => zkU_U (X_openView hA hv hcw.1 hcw.2.1 fun u hfu hou => zkU_U ?_)
  have hw := seq_okA hA hv (cpL_in (f := f) (n := (gV (tG D t)).length) h2 (Nat.le_refl _))
  exact X_copy_27 (S := S) (Q := Q) hA hv h1 h2 (gV (tG D t)).length 0 u (by omega) hou fun x hfx hox => by
    have hcu := cPre_fr hcw hA.1 (okHs_H (okHs_push hH hA)) hfu fun a ha => by unfold cK at ha; omega
    exact k2 hv h1 h2 x (frm_trans hfw (frm_trans (frm_mono hfu fun a ha => by unfold clsC; omega) (frm_mono hfx fun a ha => by unfold clsC; omega))) (cPre_Rel (cPre_mem hcu hA.1 (okHs_H (okHs_push hH hA)) hfx hw.1 hox.2.2.2))
theorem M_copy_63 {t f o : Int} (hA : okA D) (hv : isLv D t) (hf : inRow D t f) (ho : inRow D t o) (n : Nat) : ∀ (k : Nat) (s : zSt), k + n = (gV (tG D t)).length → mRel s (seqW D t D (cpL D t f o k)) H T → mLay s (seqW D t D (cpL D t f o k)) (seqW D t D (cpL D t f o k) 0) → mTk s D t (tNr D t).toNat → (∀ u, frm (fun x => x = 253) s u → mRel u (seqW D t D (cpL D t f o (gV (tG D t)).length)) H T → Q (rI (cpN D t f o (gV (tG D t)).length)) u) → wp S 264 63 [(0, rf 252), (1, iv t), (2, iv f), (3, iv o), (4, iv (cpN D t f o k)), (5, iv k)] [] s Q := by
  have hT := isLv_ok hA hv
  have h40 : (gV (tG D t)).length ≤ 40 := (okG_shp hA.1 hT.1.1 hT.1.2).2.1
  have hD0 := hA.1.1
  have h12 := hT.2.2.1
  have t0 := hv.1
  have t1 := hv.2.1
  have hr0 := hT.1.1
  have hr1 := hT.1.2
  have hf0 := hf.1
  have hf1 := hf.2
  have ho0 := ho.1
  have ho1 := ho.2
  induction n with
  | zero =>
    intro k s hk hm hly htk k1
    have hL := cpL_in (f := f) (n := k) ho (by omega)
    have hE := seq_okA hA hv hL
    have e0 := hE.1 0 (by omega) (by omega)
    have e1 : zI s 253 (157 + 6 * t + 0) = tRc D t := by rw [Int.add_zero]; exact (hm.1 _ (by omega) (by omega)).trans (hE.1 _ (by omega) (by omega))
    have e2 : zI s 256 (tRc D t) = ((gV (tG D t)).length : Int) := by
      have hz := (hly (tRc D t) hr0 (by rw [e0]; exact hr1)).2.2.1
      rw [agR_shp hA.1 (agT_R hE.1) hr0 hr1] at hz
      exact hz
    refine v_Model_copyRow_63 ⟨⟨by omega, by omega⟩, ?_⟩
    rw [e1, e2]
    refine ⟨⟨by omega, by omega⟩, ⟨by omega, by omega⟩, fun _ => ?_, fun hc => by omega⟩
    rw [show (gV (tG D t)).length = k by omega] at k1
    exact k1 s frm_refl hm
  | succ n ihn =>
    intro k s hk hm hly htk k1
    have hL := cpL_in (f := f) (n := k) ho (by omega)
    have hE := seq_okA hA hv hL
    have e0 := hE.1 0 (by omega) (by omega)
    have e1 : zI s 253 (157 + 6 * t + 0) = tRc D t := by rw [Int.add_zero]; exact (hm.1 _ (by omega) (by omega)).trans (hE.1 _ (by omega) (by omega))
    have e2 : zI s 256 (tRc D t) = ((gV (tG D t)).length : Int) := by
      have hz := (hly (tRc D t) hr0 (by rw [e0]; exact hr1)).2.2.1
      rw [agR_shp hA.1 (agT_R hE.1) hr0 hr1] at hz
      exact hz
    have ef : ∀ u, mTk u D t (tNr D t).toNat → ∀ i : Int, inRow D t i → zL u 272 (40 * i + k) = valD D t i k := fun u hu i hi => by
      have hz := hu i.toNat (by have := hi.2; have := hi.1; omega) k (by omega)
      rw [Int.toNat_of_nonneg hi.1] at hz
      exact hz
    refine v_Model_copyRow_63 ⟨⟨by omega, by omega⟩, ?_⟩
    rw [e1, e2]
    refine ⟨⟨by omega, by omega⟩, ⟨by omega, by omega⟩, fun hc => by omega, fun _ => ⟨⟨by omega, by omega⟩, ?_⟩⟩
    rw [ef s htk f hf]
    refine MS_writes hA hv hL hm hly ⟨ho, by omega⟩ fun u hfu hmu hlu => zkU_U ⟨⟨by omega, by omega⟩, ?_⟩
    have htu := mTk_fr htk hfu (by omega)
    rw [ef u htu f hf, ef u htu o ho]
    refine ⟨fun hz => ?_, fun hz => ?_⟩
    · have hy := ihn (k + 1) u (by omega) (by rw [cpL_s]; exact hmu) (by rw [cpL_s]; exact hlu) htu fun w hfw how => k1 w (frm_trans hfu hfw) how
      have e : cpN D t f o (k + 1) = cpN D t f o k + 1 := by show cpN D t f o k + _ = _; rw [if_neg fun hq => hz (zcmp_0.mpr hq)]
      rw [e] at hy
      exact hy
    · have hy := ihn (k + 1) u (by omega) (by rw [cpL_s]; exact hmu) (by rw [cpL_s]; exact hlu) htu fun w hfw how => k1 w (frm_trans hfu hfw) how
      have e : cpN D t f o (k + 1) = cpN D t f o k + 0 := by show cpN D t f o k + _ = _; rw [if_pos (zcmp_0.mp hz)]
      rw [e] at hy
      exact hy
theorem M_copyRow {t f o : Int} (hA : okA D) (h : mRel s D H T) (ht : rng t) (hf : rng f) (ho : rng o) (k1 : ¬ (isLv D t ∧ inRow D t f ∧ inRow D t o) → ∀ u, frm modC s u → zI u 252 3 = 1 → mRel u D H T → Q (rI 0) u) (k2 : isLv D t → inRow D t f → inRow D t o → ∀ u, frm modC s u → zI u 252 3 = 0 → mRel u (seqW D t D (cpL D t f o (gV (tG D t)).length)) (pushH H D) T → Q (rI (cpN D t f o (gV (tG D t)).length)) u) : wp S 264 0 [(0, rf 252), (1, iv t), (2, iv f), (3, iv o)] [] s Q := by
  have hbad : ¬ (isLv D t ∧ inRow D t f ∧ inRow D t o) → Q (rI 0) (zwI s 252 3 1) := fun hn => k1 hn _ (frm_I frm_refl (by unfold modC; omega)) zI_eq (mRel_252 h ⟨by omega, by omega⟩)
  refine v_Model_copyRow_0 ⟨ht, fun hc => hbad fun hh => hc ⟨hh.1.1, by have := hh.1.2.1; omega, ?_⟩, fun hc => ?_⟩
  · rw [h.1 _ (by have := hh.1.1; omega) (by have := hh.1.2.1; omega)]; exact hh.1.2.2
  have e0 : zI s 253 (157 + 6 * t) = tRc D t := h.1 _ (by omega) (by omega)
  have hv : isLv D t := ⟨hc.1, by omega, by rw [← e0]; exact hc.2.2⟩
  have h12 := (isLv_ok hA hv).2.2.1
  have e1 : zI s 253 (157 + 6 * t + 1) = tNr D t := h.1 _ (by omega) (by omega)
  rw [e1]
  refine ⟨⟨by omega, by omega⟩, hf, ⟨by omega, by omega⟩, fun hn => hbad fun hh => hn (row_iff.mpr hh.2.1), fun hy => ⟨ho, fun hn => hbad fun hh => hn (row_iff.mpr hh.2.2), fun hy2 => ?_⟩⟩
  have h1 := row_iff.mp hy
  have h2 := row_iff.mp hy2
  have hm0 := mRel_252 (k := 3) (v := 0) h ⟨by omega, by omega⟩
  refine C_lays hA.1 hm0.1 fun x hfx hlx => zkU_U ?_
  have hmx := mRel_ly hm0 hfx
  refine C_msaves hmx.1 hmx.2.1 fun w hfw h252 hpw => zkU_U ?_
  have hmw : mRel w D (pushH H D) T := ⟨fun j q0 q1 => (fI hfw (by omega)).trans (hmx.1 j q0 q1), hpw, (h252 5 (by omega)).trans hmx.2.2.1, fun i hi => (fI hfw (by omega)).trans (hmx.2.2.2 i hi)⟩
  have hlw : mLay w D (D 0) := mLay_fr hlx hfw fun a a0 a1 => by omega
  refine M_takes hA hv hmw hlw fun y hfy hty => zkU_U ?_
  exact M_copy_63 (S := S) (Q := Q) (H := pushH H D) (T := T) hA hv h1 h2 (gV (tG D t)).length 0 y (by omega) (mRel_fr hmw hfy fun a a0 a1 => by omega) (mLay_fr hlw hfy fun a a0 a1 => by omega) hty fun z hfz hmz => by
    refine k2 hv h1 h2 z (frm_trans (frm_I frm_refl (by unfold modC; omega)) (frm_trans (cLy_mod hfx) (frm_trans (frm_mono hfw fun a ha => by unfold modC; omega) (frm_trans (frm_mono hfy fun a ha => by unfold modC; omega) (frm_mono hfz fun a ha => by unfold modC; omega))))) ?_ hmz
    rw [fI hfz (by omega), fI hfy (by omega), h252 3 (by omega), fI hfx (by unfold cLy; omega), zI_eq]
end OPS21
