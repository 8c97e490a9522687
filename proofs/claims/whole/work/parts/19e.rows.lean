/-! ===== calls over all rows of a table ===== -/
section OPS4
variable {S : Option (Nat × (Nat → Int32))} {Q : Option Value ⊕ Nat → zSt → Prop} {s : zSt} {D : Int → Int} {H : List (Int → Int)} {T : List Int}
/-! sum -/
theorem X_sum_16 {t : Int} {k : Nat} (hA : okA D) (hv : isLv D t) (ho : vOpen s D t) (hk : k < (gV (tG D t)).length) (k1 : Q (rL (sumD D t k (tNr D t).toNat)) s) (n : Nat) : ∀ i : Nat, (i : Int) + n = tNr D t → wp S 158 16 [(0, rf 2), (2, iv k), (3, .long (sumD D t k i)), (5, iv i)] [] s Q := by
  have h12 := (isLv_ok hA hv).2.2.1
  have h2 := ho.2.2.1.1
  induction n with
  | zero =>
    intro i hi
    refine v_RL_sum_16 ⟨⟨by omega, by omega⟩, fun _ => ?_, fun hc => by omega⟩
    rw [show i = (tNr D t).toNat by omega]
    exact k1
  | succ n ihn =>
    intro i hi
    exact v_RL_sum_16 ⟨⟨by omega, by omega⟩, fun hc => by omega, fun _ => X_read hA hv ho hk ⟨by omega, by omega⟩ (zkL_L (ihn (i + 1) (by omega)))⟩
theorem X_sum {t k : Int} (hA : okA D) (h : cRel s D H T) (ht : rng t) (hk : rng k) (k1 : ¬ hasLf D t k → Q (rT 2) (zbump s)) (k2 : hasLf D t k → ∀ u, frm (fun x => 48 ≤ x ∧ x ≤ 52) s u → Q (rL (sumD D t k.toNat (tNr D t).toNat)) u) : wp S 158 0 [(0, rf 2), (1, iv t), (2, iv k)] [] s Q := by
  refine v_RL_sum_0 ⟨ht, hk, (c_live hA h t).2, fun hc => ?_, fun hc => k1 fun hh => hc ((c_leaf hA h t k).mpr hh)⟩
  have h1 := (c_leaf hA h t k).mp hc
  refine X_openView hA h1.1 h.1 h.2.1 fun u hfu hou => zkU_U ?_
  have hkn : k = (k.toNat : Int) := by have := h1.2.1; omega
  have h12 := (isLv_ok hA h1.1).2.2.1
  have hz := X_sum_16 (S := S) hA h1.1 hou (by have := h1.2.2; omega) (k2 h1 u hfu) (tNr D t).toNat 0 (by omega)
  rw [← hkn] at hz
  exact hz
theorem M_sum_24 {t : Int} {k : Nat} (hA : okA D) (h : mRel s D H T) (hly : mLay s D (D 0)) (hv : isLv D t) (hk : k < (gV (tG D t)).length) (k1 : Q (rL (sumD D t k (tNr D t).toNat)) s) (n : Nat) : ∀ i : Nat, (i : Int) + n = tNr D t → wp S 267 24 [(0, rf 252), (1, iv t), (2, iv k), (3, .long (sumD D t k i)), (5, iv i)] [] s Q := by
  have h12 := (isLv_ok hA hv).2.2.1
  have e1 : zI s 253 (157 + 6 * t + 1) = tNr D t := h.1 _ (by have := hv.1; omega) (by have := hv.2.1; omega)
  have hb := hv.1
  have hb2 := hv.2.1
  induction n with
  | zero =>
    intro i hi
    refine v_Model_sum_24 ⟨⟨by omega, by omega⟩, ⟨by omega, by omega⟩, fun _ => ?_, fun hc => by omega⟩
    rw [show i = (tNr D t).toNat by omega]
    exact k1
  | succ n ihn =>
    intro i hi
    exact v_Model_sum_24 ⟨⟨by omega, by omega⟩, ⟨by omega, by omega⟩, fun hc => by omega, fun _ => M_val hA h hly hv hk ⟨by omega, by omega⟩ (zkL_L (ihn (i + 1) (by omega)))⟩
theorem M_sum {t k : Int} (hA : okA D) (h : mRel s D H T) (ht : rng t) (hk : rng k) (k1 : ¬ hasLf D t k → ∀ u, frm modC s u → zI u 252 3 = 1 → mRel u D H T → Q (rL 0) u) (k2 : hasLf D t k → ∀ u, frm modC s u → zI u 252 3 = 0 → mRel u D H T → Q (rL (sumD D t k.toNat (tNr D t).toNat)) u) : wp S 267 0 [(0, rf 252), (1, iv t), (2, iv k)] [] s Q := by
  refine v_Model_sum_0 (M_hasLeaf hA h ht hk fun u hfu hlu => zkI_I (bi_rng _) ⟨fun h0 => ?_, fun h0 => ?_⟩)
  · have hl : hasLf D t k := Classical.byContradiction fun hn => h0 (bi_0.mpr hn)
    obtain ⟨e1, e2, e3, e4, e5, e6, e7, e8, e9⟩ := M_lfrow (row := 0) hA h hfu hlu hl
    rw [bi_F h0]
    have hm := mRel_252 (k := 3) (v := 0) e5 ⟨by omega, by omega⟩
    have hly := mLay_252 (k := 3) (v := 0) e6
    have hz := M_sum_24 (S := S) hA hm hly hl.1 e9 (k2 hl _ (frm_I e7 (by unfold modC; omega)) zI_eq hm) (tNr D t).toNat 0 (by omega)
    rw [← e8] at hz
    exact hz
  · rw [bi_T h0]
    exact k1 (bi_0.mp h0) _ (frm_I (cLy_mod hfu) (by unfold modC; omega)) zI_eq (mRel_252 (mRel_ly h hfu) ⟨by omega, by omega⟩)
/-! findRow -/
/-- the first row from i on, of n, with a value -/
noncomputable def fndD (D : Int → Int) (t : Int) (k : Nat) (v : Int64) : Nat → Nat → Int
  | 0, _ => -1
  | n + 1, i => @ite Int (valD D t i k = v) (Classical.propDecidable _) i (fndD D t k v n (i + 1))
theorem fndD_b (D : Int → Int) (t : Int) (k : Nat) (v : Int64) : ∀ n i : Nat, -1 ≤ fndD D t k v n i ∧ fndD D t k v n i ≤ (i + n : Nat) := by
  intro n
  induction n with
  | zero => intro i; show -1 ≤ (-1 : Int) ∧ (-1 : Int) ≤ _; omega
  | succ n ihn =>
    intro i
    have hz := ihn (i + 1)
    unfold fndD
    split
    · omega
    · omega
theorem X_find_17 {t : Int} {k : Nat} {v : Int64} (hA : okA D) (hv : isLv D t) (ho : vOpen s D t) (hk : k < (gV (tG D t)).length) (n : Nat) : ∀ i : Nat, (i : Int) + n = tNr D t → Q (rI (fndD D t k v n i)) s → wp S 156 17 [(0, rf 2), (2, iv k), (3, .long v), (6, iv i)] [] s Q := by
  have h12 := (isLv_ok hA hv).2.2.1
  have h2 := ho.2.2.1.1
  induction n with
  | zero => intro i hi k1; exact v_RL_findRow_17 ⟨⟨by omega, by omega⟩, fun _ => k1, fun hc => by omega⟩
  | succ n ihn =>
    intro i hi k1
    unfold fndD at k1
    refine v_RL_findRow_17 ⟨⟨by omega, by omega⟩, fun hc => by omega, fun _ => X_read hA hv ho hk ⟨by omega, by omega⟩ (zkL_L ⟨fun hz => ihn (i + 1) (by omega) ?_, fun hz => ?_⟩)⟩
    · rw [if_neg (fun hq => hz (zcmp_0.mpr hq))] at k1; exact k1
    · rw [if_pos (zcmp_0.mp hz)] at k1; exact k1
theorem X_findRow {t k from_ : Int} {v : Int64} (hA : okA D) (h : cRel s D H T) (ht : rng t) (hk : rng k) (hr : rng from_) (k1 : ¬ (hasLf D t k ∧ inRow D t from_) → Q (rT 2) (zbump s)) (k2 : hasLf D t k → inRow D t from_ → ∀ u, frm (fun x => 48 ≤ x ∧ x ≤ 52) s u → Q (rI (fndD D t k.toNat v (tNr D t - from_).toNat from_.toNat)) u) : wp S 156 0 [(0, rf 2), (1, iv t), (2, iv k), (3, .long v), (5, iv from_)] [] s Q := by
  refine v_RL_findRow_0 ⟨ht, hr, hk, (c_live hA h t).2, fun hc => ?_, fun hc => k1 fun hh => hc ((c_place hA h t from_ k).mpr hh)⟩
  obtain ⟨h1, h2⟩ := (c_place hA h t from_ k).mp hc
  refine X_openView hA h1.1 h.1 h.2.1 fun u hfu hou => zkU_U ?_
  have hkn : k = (k.toNat : Int) := by have := h1.2.1; omega
  have hfn : from_ = (from_.toNat : Int) := by have := h2.1; omega
  have hz := X_find_17 (S := S) (Q := Q) (v := v) hA h1.1 hou (k := k.toNat) (by have := h1.2.2; omega) (tNr D t - from_).toNat from_.toNat (by have := h2.2; have := h2.1; omega) (k2 h1 h2 u hfu)
  rw [← hkn, ← hfn] at hz
  exact hz
theorem M_find_41 {t : Int} {k : Nat} {v : Int64} (hA : okA D) (h : mRel s D H T) (hly : mLay s D (D 0)) (hv : isLv D t) (hk : k < (gV (tG D t)).length) (n : Nat) : ∀ i : Nat, (i : Int) + n = tNr D t → Q (rI (fndD D t k v n i)) s → wp S 266 41 [(0, rf 252), (1, iv t), (2, iv k), (3, .long v), (6, iv i)] [] s Q := by
  have h12 := (isLv_ok hA hv).2.2.1
  have e1 : zI s 253 (157 + 6 * t + 1) = tNr D t := h.1 _ (by have := hv.1; omega) (by have := hv.2.1; omega)
  have hb := hv.1
  have hb2 := hv.2.1
  induction n with
  | zero => intro i hi k1; exact v_Model_findRow_41 ⟨⟨by omega, by omega⟩, ⟨by omega, by omega⟩, fun _ => k1, fun hc => by omega⟩
  | succ n ihn =>
    intro i hi k1
    unfold fndD at k1
    refine v_Model_findRow_41 ⟨⟨by omega, by omega⟩, ⟨by omega, by omega⟩, fun hc => by omega, fun _ => M_val hA h hly hv hk ⟨by omega, by omega⟩ (zkL_L ⟨fun hz => ihn (i + 1) (by omega) ?_, fun hz => ?_⟩)⟩
    · rw [if_neg (fun hq => hz (zcmp_0.mpr hq))] at k1; exact k1
    · rw [if_pos (zcmp_0.mp hz)] at k1; exact k1
theorem M_findRow {t k from_ : Int} {v : Int64} (hA : okA D) (h : mRel s D H T) (ht : rng t) (hk : rng k) (hr : rng from_) (k1 : ¬ (hasLf D t k ∧ inRow D t from_) → ∀ u, frm modC s u → zI u 252 3 = 1 → mRel u D H T → Q (rI 0) u) (k2 : hasLf D t k → inRow D t from_ → ∀ u, frm modC s u → zI u 252 3 = 0 → mRel u D H T → Q (rI (fndD D t k.toNat v (tNr D t - from_).toNat from_.toNat)) u) : wp S 266 0 [(0, rf 252), (1, iv t), (2, iv k), (3, .long v), (5, iv from_)] [] s Q := by
  refine v_Model_findRow_0 (M_hasLeaf hA h ht hk fun u hfu hlu => zkI_I (bi_rng _) ⟨fun h0 => ?_, fun h0 => ?_⟩)
  · have hn := bi_0.mp h0
    exact k1 (fun hh => hn hh.1) _ (frm_I (cLy_mod hfu) (by unfold modC; omega)) zI_eq (mRel_252 (mRel_ly h hfu) ⟨by omega, by omega⟩)
  · have hl : hasLf D t k := Classical.byContradiction fun hn => h0 (bi_0.mpr hn)
    obtain ⟨e1, e2, e3, e4, e5, e6, e7, e8, e9⟩ := M_lfrow (row := 0) hA h hfu hlu hl
    rw [e1]
    refine ⟨e2, hr, e3, fun hn => ?_, fun hy => ?_⟩
    · exact k1 (fun hh => hn (row_iff.mpr hh.2)) _ (frm_I e7 (by unfold modC; omega)) zI_eq (mRel_252 e5 ⟨by omega, by omega⟩)
    · have hm := mRel_252 (k := 3) (v := 0) e5 ⟨by omega, by omega⟩
      have hly := mLay_252 (k := 3) (v := 0) e6
      have hir := row_iff.mp hy
      have hfn : from_ = (from_.toNat : Int) := by have := hir.1; omega
      have hz := M_find_41 (S := S) (Q := Q) (v := v) hA hm hly hl.1 e9 (tNr D t - from_).toNat from_.toNat (by have := hir.2; have := hir.1; omega) (k2 hl hir _ (frm_I e7 (by unfold modC; omega)) zI_eq hm)
      rw [← e8, ← hfn] at hz
      exact hz
/-! fill -/
theorem X_fill_18 {t : Int} {k : Nat} {st step : Int64} (hA : okA D) (hv : isLv D t) (hk : k < (gV (tG D t)).length) (n : Nat) : ∀ (i : Nat) (s : zSt), (i : Int) + n = tNr D t → vOpen s (wrsD D t k st step i) t → (∀ u, frm (fun x => x = 6) s u → vOpen u (wrsD D t k st step (tNr D t).toNat) t → Q (rI (tNr D t)) u) → wp S 150 18 [(0, rf 2), (2, iv k), (3, .long st), (5, .long step), (7, iv i)] [] s Q := by
  have h12 := (isLv_ok hA hv).2.2.1
  induction n with
  | zero =>
    intro i s hi ho k1
    obtain ⟨g1, g2, g3⟩ := tG_ag hA (wrsD_ok hA hv hk i (by omega)).1 hv
    have h2 := ho.2.2.1.1
    rw [g3] at h2
    refine v_RL_fill_18 ⟨⟨by omega, by omega⟩, fun _ => ?_, fun hc => by omega⟩
    rw [h2]
    exact k1 s frm_refl (by rw [show (tNr D t).toNat = i by omega]; exact ho)
  | succ n ihn =>
    intro i s hi ho k1
    have hw := wrsD_ok (st := st) (step := step) hA hv hk i (by omega)
    obtain ⟨g1, g2, g3⟩ := tG_ag hA hw.1 hv
    have h2 := ho.2.2.1.1
    rw [g3] at h2
    refine v_RL_fill_18 ⟨⟨by omega, by omega⟩, fun hc => by omega, fun _ => X_write hw.2 g1 ho (by rw [g2]; exact hk) ⟨by omega, by rw [g3]; omega⟩ fun u hfu hou => zkU_U ?_⟩
    exact ihn (i + 1) u (by omega) hou fun x hfx hox => k1 x (frm_trans hfu hfx) hox
theorem X_fill {t k : Int} {st step : Int64} (hA : okA D) (hH : okHs H) (h : cRel s D H T) (ht : rng t) (hk : rng k) (k1 : ¬ hasLf D t k → Q (rT 2) (zbump s)) (k2 : hasLf D t k → ∀ u, frm clsC s u → cRel u (wrsD D t k.toNat st step (tNr D t).toNat) (pushH H D) T → Q (rI (tNr D t)) u) : wp S 150 0 [(0, rf 2), (1, iv t), (2, iv k), (3, .long st), (5, .long step)] [] s Q := by
  refine v_RL_fill_0 ⟨ht, hk, (c_live hA h t).2, fun hc => ?_, fun hc => k1 fun hh => hc ((c_leaf hA h t k).mpr hh)⟩
  have h1 := (c_leaf hA h t k).mp hc
  have h12 := (isLv_ok hA h1.1).2.2.1
  refine X_save hA hH h fun w hfw hcw => zkU_U (X_openView hA h1.1 hcw.1 hcw.2.1 fun u hfu hou => zkU_U ?_)
  have hkn : k = (k.toNat : Int) := by have := h1.2.1; omega
  have hkl : k.toNat < (gV (tG D t)).length := by have := h1.2.2; omega
  have hw := wrsD_ok (st := st) (step := step) hA h1.1 hkl (tNr D t).toNat (by omega)
  have hz := X_fill_18 (S := S) (Q := Q) (st := st) (step := step) hA h1.1 hkl (tNr D t).toNat 0 u (by omega) hou fun x hfx hox => by
    have hcu := cPre_fr hcw hA.1 (okHs_H (okHs_push hH hA)) hfu fun a ha => by unfold cK at ha; omega
    exact k2 h1 x (frm_trans hfw (frm_trans (frm_mono hfu fun a ha => by unfold clsC; omega) (frm_mono hfx fun a ha => by unfold clsC; omega))) (cPre_Rel (cPre_mem hcu hA.1 (okHs_H (okHs_push hH hA)) hfx hw.1 hox.2.2.2))
  rw [← hkn] at hz
  exact hz
theorem M_fill_26 {t : Int} {k : Nat} {st step : Int64} (hA : okA D) (hv : isLv D t) (hk : k < (gV (tG D t)).length) (n : Nat) : ∀ (i : Nat) (s : zSt), (i : Int) + n = tNr D t → mRel s (wrsD D t k st step i) H T → mLay s (wrsD D t k st step i) (wrsD D t k st step i 0) → (∀ u, frm (fun x => x = 253) s u → mRel u (wrsD D t k st step (tNr D t).toNat) H T → Q (rI (tNr D t)) u) → wp S 263 26 [(0, rf 252), (1, iv t), (2, iv k), (3, .long st), (5, .long step), (7, iv i)] [] s Q := by
  have h12 := (isLv_ok hA hv).2.2.1
  have hb := hv.1
  have hb2 := hv.2.1
  induction n with
  | zero =>
    intro i s hi hm hly k1
    obtain ⟨g1, g2, g3⟩ := tG_ag hA (wrsD_ok (st := st) (step := step) hA hv hk i (by omega)).1 hv
    have e1 : zI s 253 (157 + 6 * t + 1) = tNr D t := by rw [← g3]; exact hm.1 _ (by omega) (by omega)
    refine v_Model_fill_26 ⟨⟨by omega, by omega⟩, ⟨by omega, by omega⟩, fun _ => ?_, fun hc => by omega⟩
    rw [e1]
    exact k1 s frm_refl (by rw [show (tNr D t).toNat = i by omega]; exact hm)
  | succ n ihn =>
    intro i s hi hm hly k1
    have hw := wrsD_ok (st := st) (step := step) hA hv hk i (by omega)
    obtain ⟨g1, g2, g3⟩ := tG_ag hA hw.1 hv
    have e1 : zI s 253 (157 + 6 * t + 1) = tNr D t := by rw [← g3]; exact hm.1 _ (by omega) (by omega)
    refine v_Model_fill_26 ⟨⟨by omega, by omega⟩, ⟨by omega, by omega⟩, fun hc => by omega, fun _ => M_writes hw.2 hm hly g1 (by rw [g2]; exact hk) ⟨by omega, by rw [g3]; omega⟩ fun u hfu hmu hlu => zkU_U ?_⟩
    exact ihn (i + 1) u (by omega) hmu hlu fun x hfx hox => k1 x (frm_trans hfu hfx) hox
theorem M_fill {t k : Int} {st step : Int64} (hA : okA D) (h : mRel s D H T) (ht : rng t) (hk : rng k) (k1 : ¬ hasLf D t k → ∀ u, frm modC s u → zI u 252 3 = 1 → mRel u D H T → Q (rI 0) u) (k2 : hasLf D t k → ∀ u, frm modC s u → zI u 252 3 = 0 → mRel u (wrsD D t k.toNat st step (tNr D t).toNat) (pushH H D) T → Q (rI (tNr D t)) u) : wp S 263 0 [(0, rf 252), (1, iv t), (2, iv k), (3, .long st), (5, .long step)] [] s Q := by
  refine v_Model_fill_0 (M_hasLeaf hA h ht hk fun u hfu hlu => zkI_I (bi_rng _) ⟨fun h0 => ?_, fun h0 => ?_⟩)
  · have hl : hasLf D t k := Classical.byContradiction fun hn => h0 (bi_0.mpr hn)
    obtain ⟨e1, e2, e3, e4, e5, e6, e7, e8, e9⟩ := M_lfrow (row := 0) hA h hfu hlu hl
    rw [bi_F h0]
    have hm := mRel_252 (k := 3) (v := 0) e5 ⟨by omega, by omega⟩
    have hly := mLay_252 (k := 3) (v := 0) e6
    refine C_msaves hm.1 hm.2.1 fun w hfw h252 hpw => zkU_U ?_
    have hmw : mRel w D (pushH H D) T := ⟨fun j q0 q1 => (fI hfw (by omega)).trans (hm.1 j q0 q1), hpw, (h252 5 (by omega)).trans hm.2.2.1, fun i hi => (fI hfw (by omega)).trans (hm.2.2.2 i hi)⟩
    have hlw : mLay w D (D 0) := mLay_fr hly hfw fun a a0 a1 => by omega
    have hz := M_fill_26 (S := S) (Q := Q) (H := pushH H D) (T := T) (st := st) (step := step) hA hl.1 e9 (tNr D t).toNat 0 w (by omega) hmw hlw fun x hfx hmx => by
      refine k2 hl x (frm_trans (frm_I e7 (by unfold modC; omega)) (frm_trans (frm_mono hfw fun a ha => by unfold modC; omega) (frm_mono hfx fun a ha => by unfold modC; omega))) ?_ hmx
      rw [fI hfx (by omega), h252 3 (by omega), zI_eq]
    rw [← e8] at hz
    exact hz
  · rw [bi_T h0]
    exact k1 (bi_0.mp h0) _ (frm_I (cLy_mod hfu) (by unfold modC; omega)) zI_eq (mRel_252 (mRel_ly h hfu) ⟨by omega, by omega⟩)
end OPS4
