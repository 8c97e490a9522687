/-! ===== sort of the reference ===== -/
section OPS24
variable {S : Option (Nat × (Nat → Int32))} {Q : Option Value ⊕ Nat → zSt → Prop} {s : zSt} {D : Int → Int} {H : List (Int → Int)} {T : List Int}
theorem rkD_le {W : Nat → Int} {d : Int} {r : Nat} : ∀ i : Nat, rkD W d r i ≤ i := by
  intro i
  induction i with
  | zero => exact Nat.le_refl _
  | succ i ihi => rw [rkD_s]; split <;> omega
theorem M_sort_51 {t d x4 : Int} {k r : Nat} (hm : mRel s D H T) (ht : 0 ≤ t ∧ t < 3) (h12 : 1 ≤ tNr D t ∧ tNr D t ≤ 12) (hd : d = 0 ∨ d = 1) (htk : mTk s D t (tNr D t).toNat) (hk : k < (gV (tG D t)).length) (hk40 : k < 40) (hr : (r : Int) < tNr D t) (k1 : rkT D t k d r ≠ r → wp S 262 34 [(0, rf 252), (1, iv t), (2, iv k), (3, iv d), (4, iv (x4 + 1)), (5, iv (r + 1))] [] (zwI s 273 r (rkT D t k d r : Nat)) Q) (k2 : rkT D t k d r = r → wp S 262 34 [(0, rf 252), (1, iv t), (2, iv k), (3, iv d), (4, iv x4), (5, iv (r + 1))] [] (zwI s 273 r (rkT D t k d r : Nat)) Q) (n : Nat) : ∀ i : Nat, (i : Int) + n = tNr D t → wp S 262 51 [(0, rf 252), (1, iv t), (2, iv k), (3, iv d), (4, iv x4), (5, iv r), (6, iv (rkD (fun r => (valD D t r k).toInt) d r i : Nat)), (7, iv i)] [] s Q := by
  have e1 : zI s 253 (157 + 6 * t + 1) = tNr D t := hm.1 _ (by omega) (by omega)
  have hdr : rng d := by rcases hd with q | q <;> rw [q] <;> exact ⟨by decide, by decide⟩
  induction n with
  | zero =>
    intro i hi
    have hle := rkD_le (W := fun r => (valD D t r k).toInt) (d := d) (r := r) i
    have hin : (tNr D t).toNat = i := by omega
    have hrk : rkT D t k d r = rkD (fun r => (valD D t r k).toInt) d r i := by unfold rkT; rw [hin]
    rw [hrk] at k1 k2
    refine v_Model_sort_51 ⟨⟨by omega, by omega⟩, ⟨by omega, by omega⟩, fun _ => ⟨⟨by omega, by omega⟩, ⟨by omega, by omega⟩, ⟨by omega, by omega⟩, fun hc => k1 (by omega), fun hc => ?_⟩, fun hc => by omega⟩
    rw [Int.add_zero]
    exact k2 (by omega)
  | succ n ihn =>
    intro i hi
    have hle := rkD_le (W := fun r => (valD D t r k).toInt) (d := d) (r := r) i
    have hz := ihn (i + 1) (by omega)
    have v1 : zL s 272 (40 * (i : Int) + k) = valD D t i k := htk i (by omega) k hk
    have v2 : zL s 272 (40 * (r : Int) + k) = valD D t r k := htk r (by omega) k hk
    have c1 := zcmp_lt (u := valD D t i k) (v := valD D t r k)
    have c2 := zcmp_eq (u := valD D t i k) (v := valD D t r k)
    rw [rkD_s] at hz
    have hyes : befD (fun r => (valD D t r k).toInt) d i r → wp S 262 51 [(0, rf 252), (1, iv t), (2, iv k), (3, iv d), (4, iv x4), (5, iv r), (6, iv ((rkD (fun r => (valD D t r k).toInt) d r i : Nat) + 1)), (7, iv (i + 1))] [] s Q := fun hb => by
      rw [if_pos hb] at hz; exact hz
    have hno : ¬ befD (fun r => (valD D t r k).toInt) d i r → wp S 262 51 [(0, rf 252), (1, iv t), (2, iv k), (3, iv d), (4, iv x4), (5, iv r), (6, iv ((rkD (fun r => (valD D t r k).toInt) d r i : Nat) + 0)), (7, iv (i + 1))] [] s Q := fun hb => by
      rw [if_neg hb] at hz; exact hz
    refine v_Model_sort_51 ⟨⟨by omega, by omega⟩, ⟨by omega, by omega⟩, fun hc => by omega, fun _ => ⟨⟨by omega, by omega⟩, ⟨by omega, by omega⟩, ?_⟩⟩
    rw [v1, v2]
    refine ⟨fun hne => ⟨fun hge => ⟨hdr, fun h0 => hno ?_, fun h0 => hyes ?_⟩, fun hlt => ⟨hdr, fun h0 => hno ?_, fun h0 => hyes ?_⟩⟩, fun heq => ⟨⟨by omega, by omega⟩, fun h0 => hno ?_, fun h0 => hyes ?_⟩⟩
    all_goals
      unfold befD
      dsimp only
      omega
theorem M_sort_34 {t d : Int} {k : Nat} (hv : isLv D t) (h12 : 1 ≤ tNr D t ∧ tNr D t ≤ 12) (hd : d = 0 ∨ d = 1) (hk : k < (gV (tG D t)).length) (hk40 : k < 40) (n : Nat) : ∀ (r : Nat) (s : zSt), (r : Int) + n = tNr D t → mRel s D H T → mTk s D t (tNr D t).toNat → (∀ q : Nat, q < r → zI s 273 q = (rkT D t k d q : Nat)) → (∀ u, frm (fun x => x = 273) s u → (∀ q : Nat, (q : Int) < tNr D t → zI u 273 q = (rkT D t k d q : Nat)) → wp S 262 181 [(0, rf 252), (1, iv t), (4, iv (mvN (rkT D t k d) (tNr D t).toNat)), (5, iv 0)] [] u Q) → wp S 262 34 [(0, rf 252), (1, iv t), (2, iv k), (3, iv d), (4, iv (mvN (rkT D t k d) r)), (5, iv r)] [] s Q := by
  have t0 := hv.1
  have t1 := hv.2.1
  induction n with
  | zero =>
    intro r s hr hm htk hc k1
    have e1 : zI s 253 (157 + 6 * t + 1) = tNr D t := hm.1 _ (by omega) (by omega)
    have hz := k1 s frm_refl fun q hq => hc q (by omega)
    rw [show (tNr D t).toNat = r by omega] at hz
    exact v_Model_sort_34 ⟨⟨by omega, by omega⟩, ⟨by omega, by omega⟩, fun _ => hz, fun hc => by omega⟩
  | succ n ihn =>
    intro r s hr hm htk hc k1
    have e1 : zI s 253 (157 + 6 * t + 1) = tNr D t := hm.1 _ (by omega) (by omega)
    refine v_Model_sort_34 ⟨⟨by omega, by omega⟩, ⟨by omega, by omega⟩, fun hc => by omega, fun _ => ?_⟩
    have hf : frm (fun x => x = 273) s (zwI s 273 r (rkT D t k d r : Nat)) := frm_I frm_refl rfl
    have hnext := ihn (r + 1) (zwI s 273 r (rkT D t k d r : Nat)) (by omega) (mRel_fr hm hf fun a a0 a1 => by omega) (mTk_fr htk hf (by omega)) (fun q hq => by
      by_cases hqr : q = r
      · subst hqr; rw [zI_eq]
      · rw [zI_nj (by omega)]; exact hc q (by omega)) fun u hfu => k1 u (frm_trans hf hfu)
    refine M_sort_51 (x4 := mvN (rkT D t k d) r) hm ⟨t0, t1⟩ h12 hd htk hk hk40 (by omega) (fun hne => ?_) (fun heq => ?_) (tNr D t).toNat 0 (by omega)
    · have e : mvN (rkT D t k d) (r + 1) = mvN (rkT D t k d) r + 1 := by show mvN (rkT D t k d) r + _ = _; rw [if_neg hne]
      rw [e] at hnext
      exact hnext
    · have e : mvN (rkT D t k d) (r + 1) = mvN (rkT D t k d) r := by show mvN (rkT D t k d) r + _ = _; rw [if_pos heq]; omega
      rw [e] at hnext
      exact hnext
theorem rkD_lt {W : Nat → Int} {d : Int} {r : Nat} : ∀ n : Nat, r < n → rkD W d r n < n := by
  intro n
  induction n with
  | zero => intro h; exact absurd h (Nat.not_lt_zero _)
  | succ n ihn =>
    intro h
    rw [rkD_s]
    by_cases hrn : r = n
    · subst hrn
      have hz := rkD_le (W := W) (d := d) (r := r) r
      rw [if_neg (fun hb => bef_irr hb hb)]
      omega
    · have hz := ihn (by omega)
      split <;> omega
theorem rkT_lt {t d : Int} {k r : Nat} (hr : (r : Int) < tNr D t) : (rkT D t k d r : Int) < tNr D t := by
  have hz := rkD_lt (W := fun r => (valD D t r k).toInt) (d := d) (r := r) (tNr D t).toNat (by omega)
  unfold rkT
  omega
theorem soL_in {t d : Int} {k : Nat} {n m : Nat} (hn : (n : Int) ≤ tNr D t) (hm : m ≤ (gV (tG D t)).length) : ∀ p ∈ roLs (vvD D t) (rkT D t k d) m n, inP D t p.1 := fun p hp => by
  obtain ⟨r, l, hr, hl, rfl⟩ := roLs_mem.mp hp
  have hz := rkT_lt (D := D) (t := t) (k := k) (d := d) (r := r) (by omega)
  exact ⟨⟨by show (0 : Int) ≤ ((rkT D t k d r : Nat) : Int); omega, hz⟩, by show l < _; omega⟩
theorem roL_in {t d : Int} {k r : Nat} {m : Nat} (hr : (r : Int) < tNr D t) (hm : m ≤ (gV (tG D t)).length) : ∀ p ∈ roL (vvD D t) (rkT D t k d) r m, inP D t p.1 := fun p hp => by
  obtain ⟨l, hl, rfl⟩ := roL_mem.mp hp
  have hz := rkT_lt (D := D) (t := t) (k := k) (d := d) (r := r) hr
  exact ⟨⟨by show (0 : Int) ≤ ((rkT D t k d r : Nat) : Int); omega, hz⟩, by show l < _; omega⟩
theorem mE_cells {t : Int} {L : List ((Int × Nat) × Int64)} (hA : okA D) (hv : isLv D t) (hL : ∀ p ∈ L, inP D t p.1) (hm : mRel s (seqW D t D L) H T) (hly : mLay s (seqW D t D L) (seqW D t D L 0)) : zI s 253 (157 + 6 * t + 0) = tRc D t ∧ zI s 253 (157 + 6 * t + 1) = tNr D t ∧ zI s 256 (tRc D t) = ((gV (tG D t)).length : Int) := by
  have hE := seq_okA hA hv hL
  have t0 := hv.1
  have t1 := hv.2.1
  have hT := isLv_ok hA hv
  have e0 := hE.1 0 (by omega) (by omega)
  refine ⟨by rw [Int.add_zero]; exact (hm.1 _ (by omega) (by omega)).trans (hE.1 _ (by omega) (by omega)), (hm.1 _ (by omega) (by omega)).trans (hE.1 _ (by omega) (by omega)), ?_⟩
  have hz := (hly (tRc D t) hT.1.1 (by rw [e0]; exact hT.1.2)).2.2.1
  rw [agR_shp hA.1 (agT_R hE.1) hT.1.1 hT.1.2] at hz
  exact hz
theorem M_sort_195 {t d x4 : Int} {k r : Nat} {L : List ((Int × Nat) × Int64)} (hA : okA D) (hv : isLv D t) (hL : ∀ p ∈ L, inP D t p.1) (hr : (r : Int) < tNr D t) (n : Nat) : ∀ (l : Nat) (s : zSt), l + n = (gV (tG D t)).length → mRel s (seqW D t D (L ++ roL (vvD D t) (rkT D t k d) r l)) H T → mLay s (seqW D t D (L ++ roL (vvD D t) (rkT D t k d) r l)) (seqW D t D (L ++ roL (vvD D t) (rkT D t k d) r l) 0) → mTk s D t (tNr D t).toNat → zI s 273 r = (rkT D t k d r : Nat) → (∀ u, frm (fun x => x = 253) s u → mRel u (seqW D t D (L ++ roL (vvD D t) (rkT D t k d) r (gV (tG D t)).length)) H T → mLay u (seqW D t D (L ++ roL (vvD D t) (rkT D t k d) r (gV (tG D t)).length)) (seqW D t D (L ++ roL (vvD D t) (rkT D t k d) r (gV (tG D t)).length) 0) → wp S 262 181 [(0, rf 252), (1, iv t), (4, iv x4), (5, iv (r + 1))] [] u Q) → wp S 262 195 [(0, rf 252), (1, iv t), (4, iv x4), (5, iv r), (6, iv l)] [] s Q := by
  have hT := isLv_ok hA hv
  have h40 : (gV (tG D t)).length ≤ 40 := (okG_shp hA.1 hT.1.1 hT.1.2).2.1
  have hD0 := hA.1.1
  have h12 := hT.2.2.1
  have t0 := hv.1
  have t1 := hv.2.1
  have hr0 := hT.1.1
  have hr1 := hT.1.2
  have hLl : ∀ l : Nat, l ≤ (gV (tG D t)).length → ∀ p ∈ L ++ roL (vvD D t) (rkT D t k d) r l, inP D t p.1 := fun l hl p hp => by
    rcases List.mem_append.mp hp with hp | hp
    · exact hL p hp
    · exact roL_in hr hl p hp
  induction n with
  | zero =>
    intro l s hl hm hly htk h273 k1
    obtain ⟨e1, e2, e3⟩ := mE_cells hA hv (hLl l (by omega)) hm hly
    refine v_Model_sort_195 ⟨⟨by omega, by omega⟩, ?_⟩
    rw [e1, e3]
    rw [show (gV (tG D t)).length = l by omega] at k1
    exact ⟨⟨by omega, by omega⟩, ⟨by omega, by omega⟩, fun _ => k1 s frm_refl hm hly, fun hc => by omega⟩
  | succ n ihn =>
    intro l s hl hm hly htk h273 k1
    obtain ⟨e1, e2, e3⟩ := mE_cells hA hv (hLl l (by omega)) hm hly
    have ev : zL s 272 (40 * (r : Int) + l) = valD D t r l := htk r (by omega) l (by omega)
    have hrk := rkT_lt (D := D) (t := t) (k := k) (d := d) (r := r) hr
    refine v_Model_sort_195 ⟨⟨by omega, by omega⟩, ?_⟩
    rw [e1, e3]
    refine ⟨⟨by omega, by omega⟩, ⟨by omega, by omega⟩, fun hc => by omega, fun _ => ⟨⟨by omega, by omega⟩, ⟨by omega, by omega⟩, ?_⟩⟩
    rw [h273, ev]
    refine MS_writes hA hv (hLl l (by omega)) hm hly ⟨⟨by show (0 : Int) ≤ ((rkT D t k d r : Nat) : Int); omega, hrk⟩, by show l < _; omega⟩ fun u hfu hmu hlu => zkU_U ?_
    rw [List.append_assoc] at hmu hlu
    refine ihn (l + 1) u (by omega) (by rw [roL_s]; exact hmu) (by rw [roL_s]; exact hlu) (mTk_fr htk hfu (by omega)) ((fI hfu (by omega)).trans h273) fun w hfw => k1 w (frm_trans hfu hfw)
theorem M_sort_181 {t d x4 : Int} {k : Nat} (hA : okA D) (hv : isLv D t) (n : Nat) : ∀ (r : Nat) (s : zSt), (r : Int) + n = tNr D t → mRel s (seqW D t D (roLs (vvD D t) (rkT D t k d) (gV (tG D t)).length r)) H T → mLay s (seqW D t D (roLs (vvD D t) (rkT D t k d) (gV (tG D t)).length r)) (seqW D t D (roLs (vvD D t) (rkT D t k d) (gV (tG D t)).length r) 0) → mTk s D t (tNr D t).toNat → (∀ q : Nat, (q : Int) < tNr D t → zI s 273 q = (rkT D t k d q : Nat)) → (∀ u, frm (fun x => x = 253) s u → mRel u (seqW D t D (soL D t k d)) H T → Q (rI x4) u) → wp S 262 181 [(0, rf 252), (1, iv t), (4, iv x4), (5, iv r)] [] s Q := by
  have hT := isLv_ok hA hv
  have h12 := hT.2.2.1
  have t0 := hv.1
  have t1 := hv.2.1
  induction n with
  | zero =>
    intro r s hr hm hly htk h273 k1
    obtain ⟨e1, e2, e3⟩ := mE_cells hA hv (soL_in (by omega) (Nat.le_refl _)) hm hly
    refine v_Model_sort_181 ⟨⟨by omega, by omega⟩, ⟨by omega, by omega⟩, fun _ => k1 s frm_refl ?_, fun hc => by omega⟩
    unfold soL
    rw [show (tNr D t).toNat = r by omega]
    exact hm
  | succ n ihn =>
    intro r s hr hm hly htk h273 k1
    obtain ⟨e1, e2, e3⟩ := mE_cells hA hv (soL_in (by omega) (Nat.le_refl _)) hm hly
    refine v_Model_sort_181 ⟨⟨by omega, by omega⟩, ⟨by omega, by omega⟩, fun hc => by omega, fun _ => ?_⟩
    have hz := M_sort_195 (S := S) (Q := Q) (H := H) (T := T) (d := d) (x4 := x4) (k := k) (r := r) (L := roLs (vvD D t) (rkT D t k d) (gV (tG D t)).length r) hA hv (soL_in (by omega) (Nat.le_refl _)) (by omega) (gV (tG D t)).length 0 s (by omega) (by show mRel s (seqW D t D (roLs (vvD D t) (rkT D t k d) (gV (tG D t)).length r ++ [])) H T; rw [List.append_nil]; exact hm) (by show mLay s (seqW D t D (roLs (vvD D t) (rkT D t k d) (gV (tG D t)).length r ++ [])) (seqW D t D (roLs (vvD D t) (rkT D t k d) (gV (tG D t)).length r ++ []) 0); rw [List.append_nil]; exact hly) htk (h273 r (by omega)) fun u hfu hmu hlu => by
      rw [← roLs_s] at hmu hlu
      exact ihn (r + 1) u (by omega) hmu hlu (mTk_fr htk hfu (by omega)) (fun q hq => (fI hfu (by omega)).trans (h273 q hq)) fun w hfw hmw => k1 w (frm_trans hfu hfw) hmw
    exact hz
theorem M_sort {t k d : Int} (hA : okA D) (h : mRel s D H T) (ht : rng t) (hk : rng k) (hd : d = 0 ∨ d = 1) (k1 : ¬ hasLf D t k → ∀ u, frm modC s u → zI u 252 3 = 1 → mRel u D H T → Q (rI 0) u) (k2 : hasLf D t k → ∀ u, frm modC s u → zI u 252 3 = 0 → mRel u (seqW D t D (soL D t k.toNat d)) (pushH H D) T → Q (rI (mvN (rkT D t k.toNat d) (tNr D t).toNat)) u) : wp S 262 0 [(0, rf 252), (1, iv t), (2, iv k), (3, iv d)] [] s Q := by
  refine v_Model_sort_0 (M_hasLeaf hA h ht hk fun u hfu hlu => zkI_I (bi_rng _) ⟨fun h0 => ?_, fun h0 => ?_⟩)
  · have hl : hasLf D t k := Classical.byContradiction fun hn => h0 (bi_0.mpr hn)
    obtain ⟨e1, e2, e3, e4, e5, e6, e7, e8, e9⟩ := M_lfrow (row := 0) hA h hfu hlu hl
    have hv := hl.1
    have hT := isLv_ok hA hv
    have h40 : (gV (tG D t)).length ≤ 40 := (okG_shp hA.1 hT.1.1 hT.1.2).2.1
    rw [bi_F h0]
    have hm := mRel_252 (k := 3) (v := 0) e5 ⟨by omega, by omega⟩
    have hly := mLay_252 (k := 3) (v := 0) e6
    refine C_msaves hm.1 hm.2.1 fun w hfw h252 hpw => zkU_U ?_
    have hmw : mRel w D (pushH H D) T := ⟨fun j q0 q1 => (fI hfw (by omega)).trans (hm.1 j q0 q1), hpw, (h252 5 (by omega)).trans hm.2.2.1, fun i hi => (fI hfw (by omega)).trans (hm.2.2.2 i hi)⟩
    have hlw : mLay w D (D 0) := mLay_fr hly hfw fun a a0 a1 => by omega
    refine M_takes hA hv hmw hlw fun y hfy hty => zkU_U ?_
    have hmy : mRel y D (pushH H D) T := mRel_fr hmw hfy fun a a0 a1 => by omega
    have hly' : mLay y D (D 0) := mLay_fr hlw hfy fun a a0 a1 => by omega
    rw [e8]
    refine M_sort_34 (k := k.toNat) hv e4 hd e9 (by omega) (tNr D t).toNat 0 y (by omega) hmy hty (fun q h => absurd h (Nat.not_lt_zero _)) fun x hfx hx6 => ?_
    refine M_sort_181 (H := pushH H D) (T := T) (d := d) (k := k.toNat) hA hv (tNr D t).toNat 0 x (by omega) (mRel_fr hmy hfx fun a a0 a1 => by omega) (mLay_fr hly' hfx fun a a0 a1 => by omega) (mTk_fr hty hfx (by omega)) hx6 fun z hfz hmz => ?_
    refine k2 hl z (frm_trans (frm_I e7 (by unfold modC; omega)) (frm_trans (frm_mono hfw fun a ha => by unfold modC; omega) (frm_trans (frm_mono hfy fun a ha => by unfold modC; omega) (frm_trans (frm_mono hfx fun a ha => by unfold modC; omega) (frm_mono hfz fun a ha => by unfold modC; omega))))) ?_ hmz
    rw [fI hfz (by omega), fI hfx (by omega), fI hfy (by omega), h252 3 (by omega), zI_eq]
  · rw [bi_T h0]
    exact k1 (bi_0.mp h0) _ (frm_I (cLy_mod hfu) (by unfold modC; omega)) zI_eq (mRel_252 (mRel_ly h hfu) ⟨by omega, by omega⟩)
end OPS24
