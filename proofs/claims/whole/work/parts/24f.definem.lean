/-! ===== define of the reference ===== -/
def mFl (s : zSt) (F : List (Int × Int × Int)) : Prop := zI s 252 24 = (F.length : Int) ∧ ∀ i : Nat, i < F.length → zI s 269 i = (fD F i).1 ∧ zI s 270 i = (fD F i).2.1 ∧ zI s 271 i = (fD F i).2.2
def rdC (a : Int) : Prop := a = 252 ∨ (269 ≤ a ∧ a ≤ 271)
def fR (s t : zSt) : Prop := frm rdC s t ∧ ∀ j, j ≠ 19 → j ≠ 20 → j ≠ 24 → j ≠ 25 → zI t 252 j = zI s 252 j
theorem fR_refl {s : zSt} : fR s s := ⟨frm_refl, fun _ _ _ _ _ => rfl⟩
theorem fR_trans {s t u : zSt} (h : fR s t) (k : fR t u) : fR s u := ⟨frm_trans h.1 k.1, fun j h1 h2 h3 h4 => (k.2 j h1 h2 h3 h4).trans (h.2 j h1 h2 h3 h4)⟩
theorem fR_M {s t : zSt} (h : fM s t) : fR s t := ⟨frm_mono h.1 fun a ha => .inl ha, fun j h1 h2 _ _ => h.2 j h1 h2⟩
theorem mTx_R {s t : zSt} {T : List Int} (h : mTx s T) (hf : fR s t) : mTx t T := ⟨(hf.2 5 (by omega) (by omega) (by omega) (by omega)).trans h.1, fun i hi => (fI hf.1 (by unfold rdC; omega)).trans (h.2 i hi)⟩
theorem mRel_R {s t : zSt} {D : Int → Int} {H : List (Int → Int)} {T : List Int} (h : mRel s D H T) (hf : fR s t) : mRel t D H T :=
  ⟨fun j q0 q1 => (fI hf.1 (by unfold rdC; omega)).trans (h.1 j q0 q1), ⟨⟨(hf.2 2 (by omega) (by omega) (by omega) (by omega)).trans h.2.1.1.1, h.2.1.1.2⟩, fun i hi j q0 q1 => (fI hf.1 (by unfold rdC; omega)).trans (h.2.1.2 i hi j q0 q1)⟩, mTx_R h.2.2 hf⟩
section RFM
variable {S : Option (Nat × (Nat → Int32))} {Q : Option Value ⊕ Nat → zSt → Prop} {s : zSt} {D : Int → Int} {H : List (Int → Int)} {T : List Int}
theorem M_rf_202 {F : List (Int × Int × Int)} {n c ty ct : Int} {k : Nat} (hA : okA D) (hly : mLay s D (D 0)) (hT : okTx T) (ht : mTx s T) (hk : k ≤ 200) (hn : zI s 252 25 = n) (hn4 : 0 ≤ n ∧ n ≤ 40) (hl : F.length < 8) (hf : mFl s F) (hc : rng c) (hty : okTy D ty) (hct : 1 ≤ ct ∧ ct ≤ 4)
    (ky : ltr T k = 59 ∧ n + ct * (tyL (shp D) ty : Int) ≤ 40 → ∀ u, fR s u → zI u 252 20 = (k : Int) + 1 → zI u 252 25 = n + ct * (tyL (shp D) ty : Int) → mFl u (F ++ [(c, ty, ct)]) → Q (rI (-1)) u) (kn : ¬ (ltr T k = 59 ∧ n + ct * (tyL (shp D) ty : Int) ≤ 40) → Q (rI k) s) : wp S 224 202 [(0, rf 252), (2, iv c), (5, iv ty), (6, iv k), (7, iv ct)] [] s Q := by
  have hD0 := hA.1.1
  have hT8 := hT.1
  have hlt := ht.1
  have hb := ltr_b hT k
  have e0 := m_lt ht k
  have hL := okTy_L hA.1 hty
  have hp : 0 ≤ ct * (tyL (shp D) ty : Int) := Int.mul_nonneg (by omega) (by omega)
  have hp2 : ct * (tyL (shp D) ty : Int) ≤ 4 * 40 := Int.mul_le_mul hct.2 (by omega) (by omega) (by omega)
  have hrty : rng ty := by rcases hty with hh | hh | hh <;> exact ⟨by omega, by omega⟩
  have hold : ∀ i : Nat, i < F.length → fD (F ++ [(c, ty, ct)]) i = fD F i := fun i hi => getD_app1 hi
  have hnew : fD (F ++ [(c, ty, ct)]) F.length = (c, ty, ct) := by
    show List.getD _ _ _ = _
    rw [getD_app2 (Nat.le_refl _), Nat.sub_self]; rfl
  have hgo : ∀ x : Int, x = n + ct * (tyL (shp D) ty : Int) → (ltr T k = 59 ∧ x ≤ 40) → Q (rI (-1)) (zwI (zwI (zwI (zwI (zwI (zwI s 269 F.length c) 270 F.length ty) 271 F.length ct) 252 24 ((F.length : Int) + 1)) 252 25 x) 252 20 ((k : Int) + 1)) := by
    intro x hx hh
    subst hx
    refine ky hh _ ⟨frm_I (frm_I (frm_I (frm_I (frm_I (frm_I frm_refl (by unfold rdC; omega)) (by unfold rdC; omega)) (by unfold rdC; omega)) (by unfold rdC; omega)) (by unfold rdC; omega)) (by unfold rdC; omega), fun j h1 h2 h3 h4 => ?_⟩ zI_eq (by rw [zI_nj (by omega), zI_eq]) ⟨?_, fun i hi => ?_⟩
    · rw [zI_nj h2, zI_nj h4, zI_nj h3, zI_ne (by omega), zI_ne (by omega), zI_ne (by omega)]
    · rw [zI_nj (by omega), zI_nj (by omega), zI_eq, List.length_append]
      show (F.length : Int) + 1 = ((F.length + 1 : Nat) : Int)
      omega
    · rw [List.length_append] at hi
      have hi : i < F.length + 1 := hi
      by_cases hiF : i = F.length
      · subst hiF
        rw [hnew]
        refine ⟨?_, ?_, ?_⟩
        · rw [zI_ne (by omega), zI_ne (by omega), zI_ne (by omega), zI_ne (by omega), zI_ne (by omega), zI_eq]
        · rw [zI_ne (by omega), zI_ne (by omega), zI_ne (by omega), zI_ne (by omega), zI_eq]
        · rw [zI_ne (by omega), zI_ne (by omega), zI_ne (by omega), zI_eq]
      · obtain ⟨w1, w2, w3⟩ := hf.2 i (by omega)
        rw [hold i (by omega)]
        refine ⟨?_, ?_, ?_⟩
        · rw [zI_ne (by omega), zI_ne (by omega), zI_ne (by omega), zI_ne (by omega), zI_ne (by omega), zI_nj (by omega)]; exact w1
        · rw [zI_ne (by omega), zI_ne (by omega), zI_ne (by omega), zI_ne (by omega), zI_nj (by omega), zI_ne (by omega)]; exact w2
        · rw [zI_ne (by omega), zI_ne (by omega), zI_ne (by omega), zI_nj (by omega), zI_ne (by omega), zI_ne (by omega)]; exact w3
  refine v_Model_readsField_202 ?_
  rw [e0, hf.1, hn]
  refine ⟨hrty, fun hlt => ?_, fun hge => ?_⟩
  · have hL1 : (tyL (shp D) ty : Int) = 1 := by unfold tyL; rw [if_pos hlt]; rfl
    rw [hL1] at hgo kn hp hp2
    exact ⟨⟨by omega, by omega⟩, fun _ => ⟨by omega, by omega⟩, ⟨by omega, by omega⟩, fun h59 => kn fun hh => h59 hh.1, fun h59 => ⟨⟨by omega, by omega⟩, fun hle => ⟨⟨by omega, by omega⟩, hc, ⟨by omega, by omega⟩, ⟨by omega, by omega⟩, ⟨by omega, by omega⟩, hgo _ rfl ⟨h59, hle⟩⟩, fun hlt2 => kn fun hh => by omega⟩⟩
  · have h3 : ty - 100 < D 0 ∧ 0 < dN D (ty - 100) := by rcases hty with hh | hh | hh <;> omega
    have h6 := (hly (ty - 100) (by omega) h3.1).2.2.1
    have hL1 : zI s 256 (ty - 100) = (tyL (shp D) ty : Int) := by
      rw [h6]
      unfold tyL
      rw [if_neg (by omega)]
    rw [hL1]
    exact ⟨⟨by omega, by omega⟩, ⟨by omega, by omega⟩, fun _ => ⟨by omega, by omega⟩, ⟨by omega, by omega⟩, fun h59 => kn fun hh => h59 hh.1, fun h59 => ⟨⟨by omega, by omega⟩, fun hle => ⟨⟨by omega, by omega⟩, hc, ⟨by omega, by omega⟩, ⟨by omega, by omega⟩, ⟨by omega, by omega⟩, hgo _ rfl ⟨h59, hle⟩⟩, fun hlt2 => kn fun hh => by omega⟩⟩
theorem mLay_R {t : zSt} {n : Int} (h : mLay s D n) (hf : fR s t) : mLay t D n := mLay_fr h hf.1 fun a a0 a1 => by unfold rdC; omega
theorem mFl_M {t : zSt} {F : List (Int × Int × Int)} (h : mFl s F) (hf : fM s t) : mFl t F := ⟨(hf.2 24 (by omega) (by omega)).trans h.1, fun i hi => ⟨(fI hf.1 (by omega)).trans (h.2 i hi).1, (fI hf.1 (by omega)).trans (h.2 i hi).2.1, (fI hf.1 (by omega)).trans (h.2 i hi).2.2⟩⟩
theorem M_rfield {F : List (Int × Int × Int)} {n : Int} {k : Nat} (hA : okA D) (hm : mD s D) (hly : mLay s D (D 0)) (hT : okTx T) (ht : mTx s T) (hk : k ≤ 81) (hn : zI s 252 25 = n) (hI : fsI D F n) (hf : mFl s F)
    (ky : (rfP D T F n k).1 = -1 → ∀ u, fR s u → zI u 252 20 = ((rfP D T F n k).2.2.2 : Int) → zI u 252 25 = (rfP D T F n k).2.2.1 → mFl u (rfP D T F n k).2.1 → Q (rI (-1)) u) (kn : (rfP D T F n k).1 ≠ -1 → ∀ u, fR s u → Q (rI (rfP D T F n k).1) u) :
    wp S 224 0 [(0, rf 252), (1, iv k)] [] s Q := by
  have hl := ht.1
  have hT8 := hT.1
  have e0 := m_lt ht k
  have e1 := m_lt1 ht k
  have hb := ltr_b hT k
  have hb1 := ltr_b hT (k + 1)
  have hF8 := hI.1
  have hn0 := hI.2.2.2.2
  have hNo : ¬ nmP F (ltr T k) → Q (rI k) s := fun hh => by
    have e : rfP D T F n k = ((k : Int), [], 0, 0) := by unfold rfP; rw [if_neg hh]
    rw [e] at kn
    exact kn (by show (k : Int) ≠ -1; omega) s fR_refl
  -- a name that can't stand
  have h35n : ¬ nmP F (ltr T k) → ∀ (m i : Nat), i + m = F.length → wp S 224 35 [(0, rf 252), (1, iv k), (2, iv (ltr T k)), (3, iv 0), (4, iv i)] [] s Q := by
    intro hh m
    induction m with
    | zero =>
      intro i hi
      refine v_Model_readsField_35 ?_
      rw [hf.1]
      exact ⟨⟨by omega, by omega⟩, fun _ => ⟨⟨by omega, by omega⟩, fun hc => absurd rfl hc, fun _ => hNo hh⟩, fun hc => by omega⟩
    | succ m ihm =>
      intro i hi
      refine v_Model_readsField_35 ?_
      rw [hf.1]
      exact ⟨⟨by omega, by omega⟩, fun hc => by omega, fun _ => ⟨⟨by omega, by omega⟩, fun _ => ihm (i + 1) (by omega), fun hc => absurd rfl hc⟩⟩
  -- what comes behind a name that can stand
  have hmain : nmP F (ltr T k) → wp S 224 35 [(0, rf 252), (1, iv k), (2, iv (ltr T k)), (3, iv 1), (4, iv F.length)] [] s Q := by
    intro hnm
    refine v_Model_readsField_35 ?_
    rw [hf.1, e1]
    refine ⟨⟨by omega, by omega⟩, fun _ => ⟨⟨by omega, by omega⟩, fun _ => ⟨⟨by omega, by omega⟩, fun _ => ⟨by omega, by omega⟩, ⟨by omega, by omega⟩, fun c4 => ?_, fun c4 => ?_⟩, fun hc => by omega⟩, fun hc => by omega⟩
    · have e : rfP D T F n k = rf3 D T F n (ltr T k) (rtP D T (k + 2)) := by unfold rfP; rw [if_pos hnm, if_pos c4]
      rw [e] at ky kn
      rw [show (k : Int) + 2 = ((k + 2 : Nat) : Int) by omega]
      have hrt := rtP_ok (D := D) (T := T) (k := k + 2)
      refine M_rtype hA hm hT ht (by omega) ⟨fun hz t hft h19 h20 => ?_, fun hz => ?_⟩
      · have hty := hrt.2 hz
        have hto : (rtP D T (k + 2)).2.2 ≤ 90 := by rcases hrt.1 with hh | hh <;> omega
        have htt := mTx_R ht (fR_M hft)
        have hlt := htt.1
        have e3 : ∀ z, rf3 D T F n (ltr T k) (rtP D T (k + 2)) = z → rf4 D T F n (ltr T k) (rtP D T (k + 2)).2.1 (rcP T (rtP D T (k + 2)).2.1 (rtP D T (k + 2)).2.2) = z := fun z hh => by rw [← hh]; unfold rf3; rw [if_pos hz]
        rw [← e3 _ rfl] at ky kn
        generalize (rtP D T (k + 2)).2.1 = ty at hty h19 ky kn ⊢
        generalize (rtP D T (k + 2)).2.2 = k2 at hto h20 ky kn ⊢
        have f0 := m_lt htt k2
        have f1 := m_lt1 htt k2
        have f2 := m_lt2 htt k2
        have hc0 := ltr_b hT k2
        have hc1 := ltr_b hT (k2 + 1)
        have hc2 := ltr_b hT (k2 + 2)
        have hL := okTy_L hA.1 hty
        have h202 : ∀ (ct : Int) (k3 : Nat), rcP T ty k2 = (-1, ct, k3) → k3 ≤ 100 → 1 ≤ ct ∧ ct ≤ 4 → wp S 224 202 [(0, rf 252), (2, iv (ltr T k)), (5, iv ty), (6, iv k3), (7, iv ct)] [] t Q := by
          intro ct k3 hrc hk3 hct
          rw [hrc] at ky kn
          unfold rf4 at ky kn
          rw [if_pos rfl] at ky kn
          refine M_rf_202 hA (mLay_R hly (fR_M hft)) hT htt (by omega) ((hft.2 25 (by omega) (by omega)).trans hn) hn0 (by have := hnm.2.1; omega) (mFl_M hf hft) ⟨by omega, by omega⟩ hty hct (fun hh u hfu h20u h25u hfl => ?_) fun hh => ?_
          · rw [if_pos hh] at ky
            exact ky rfl u (fR_trans (fR_M hft) hfu) (by rw [h20u]; show _ = ((k3 + 1 : Nat) : Int); omega) h25u hfl
          · rw [if_neg hh] at kn
            exact kn (by show (k3 : Int) ≠ -1; omega) t (fR_M hft)
        have hflt : ∀ y : Int, rcP T ty k2 = (y, 0, 0) → 0 ≤ y → Q (rI y) t := by
          intro y hrc hy
          rw [hrc] at kn
          unfold rf4 at kn
          rw [if_neg (show ¬ y = -1 by omega)] at kn
          exact kn (by show y ≠ -1; omega) t (fR_M hft)
        refine zkI_I ⟨by omega, by omega⟩ ?_
        rw [h20, h19, f0, f1, f2]
        refine ⟨fun _ => ⟨fun _ => ⟨by omega, by omega⟩, ⟨by omega, by omega⟩, fun d1 => ?_, fun d1 => ⟨fun d2 => ?_, fun d2 => ⟨⟨by omega, by omega⟩, fun _ => ⟨by omega, by omega⟩, ⟨by omega, by omega⟩, fun d3 => ⟨⟨by omega, by omega⟩, fun _ => ⟨by omega, by omega⟩, ⟨by omega, by omega⟩, fun d4 => ?_, fun d4 => ?_⟩, fun d3 => ?_⟩⟩⟩, fun hc => absurd rfl hc⟩
        · exact h202 1 k2 (by unfold rcP; rw [if_neg (fun hh => d1 hh.1)]) (by omega) ⟨by omega, by omega⟩
        · exact h202 1 k2 (by unfold rcP; rw [if_neg (fun hh => hh.2 d2)]) (by omega) ⟨by omega, by omega⟩
        · have hz2 := h202 (ltr T (k2 + 1) - 48) (k2 + 3) (by unfold rcP; rw [if_pos ⟨d1, d2⟩, if_pos d3, if_pos d4]) (by omega) ⟨by omega, by omega⟩
          rw [show ((k2 + 3 : Nat) : Int) = (k2 : Int) + 3 by omega] at hz2
          exact hz2
        · exact hflt _ (by unfold rcP; rw [if_pos ⟨d1, d2⟩, if_pos d3, if_neg d4]) (by omega)
        · exact hflt _ (by unfold rcP; rw [if_pos ⟨d1, d2⟩, if_neg d3]) (by omega)
      · have hy : (rtP D T (k + 2)).1 ≤ 90 ∧ 0 ≤ (rtP D T (k + 2)).1 := by rcases hrt.1 with hh | hh <;> omega
        refine zkI_I ⟨by omega, by omega⟩ ⟨fun hc => absurd hc hz, fun _ => ?_⟩
        unfold rf3 at kn
        rw [if_neg hz] at kn
        exact kn hz s fR_refl
    · have e : rfP D T F n k = ((k : Int) + 1, [], 0, 0) := by unfold rfP; rw [if_pos hnm, if_neg c4]
      rw [e] at kn
      exact kn (by show (k : Int) + 1 ≠ -1; omega) s fR_refl
  -- the names so far
  have h35 : (97 ≤ ltr T k ∧ ltr T k ≤ 122) → F.length < 8 → ∀ (m i : Nat), i + m = F.length → (∀ j : Nat, j < i → (fD F j).1 ≠ ltr T k) → wp S 224 35 [(0, rf 252), (1, iv k), (2, iv (ltr T k)), (3, iv 1), (4, iv i)] [] s Q := by
    intro hr h8 m
    induction m with
    | zero =>
      intro i hi hj
      have hiF : i = F.length := by omega
      subst hiF
      exact hmain ⟨hr, h8, hj⟩
    | succ m ihm =>
      intro i hi hj
      have hfi := (hf.2 i (by omega)).1
      refine v_Model_readsField_35 ?_
      rw [hf.1, hfi]
      refine ⟨⟨by omega, by omega⟩, fun hc => by omega, fun _ => ⟨⟨by omega, by omega⟩, fun hc => by omega, fun _ => ⟨⟨by omega, by omega⟩, ⟨by omega, by omega⟩, fun he => ?_, fun hne => ?_⟩⟩⟩
      · exact h35n (fun hh => hh.2.2 i (by omega) he) m (i + 1) (by omega)
      · exact ihm (i + 1) (by omega) fun j hj2 => by
          by_cases hji : j = i
          · subst hji; exact hne
          · exact hj j (by omega)
  refine v_Model_readsField_0 ?_
  rw [e0, hf.1]
  refine ⟨⟨by omega, by omega⟩, fun _ => ⟨by omega, by omega⟩, ⟨by omega, by omega⟩, fun hc => h35n (fun hh => hc hh.1) F.length 0 (by omega), fun hc => ⟨fun h8 => h35n (fun hh => by have := hh.2.1; omega) F.length 0 (by omega), fun h8 => h35 hc (by omega) F.length 0 (by omega) fun j hj => absurd hj (Nat.not_lt_zero j)⟩⟩
theorem M_reads_16 (hA : okA D) (hT : okTx T) (m : Nat) : ∀ (s : zSt) (F : List (Int × Int × Int)) (n : Int) (k : Nat), F.length + m = 9 → mRel s D H T → mLay s D (D 0) → k ≤ 81 → zI s 252 25 = n → fsI D F n → mFl s F →
    ((rdP D T m F n k).1 = -1 → ∀ u, fR s u → mFl u (rdP D T m F n k).2 → Q (rI (-1)) u) → ((rdP D T m F n k).1 ≠ -1 → ∀ u, fR s u → Q (rI (rdP D T m F n k).1) u) → wp S 223 16 [(0, rf 252), (1, iv k)] [] s Q := by
  have hT8 := hT.1
  induction m with
  | zero =>
    intro s F n k hi h hly hk hn hI hf kd kn
    have := hI.1
    omega
  | succ m ihm =>
    intro s F n k hi h hly hk hn hI hf kd kn
    have hb := rfP_b (D := D) (T := T) (F := F) (n := n) (k := k)
    refine v_Model_reads_16 ?_
    unfold rdP at kd kn
    refine M_rfield hA h.1 hly hT h.2.2 hk hn hI hf (fun hz u hfu h20 h25 hfl => zkI_I ⟨by omega, by omega⟩ ⟨fun _ => ?_, fun hc => absurd rfl hc⟩) fun hz u hfu => zkI_I ⟨by omega, by omega⟩ ⟨fun hc => absurd hc hz, fun _ => ?_⟩
    · rw [if_pos hz] at kd kn
      have hmu := mRel_R h hfu
      have h5 := hmu.2.2.1
      have hok := rfP_ok hA.1 hI hz
      rw [h20, h5]
      refine ⟨fun hlt => ?_, fun hge => ?_⟩
      · rw [if_pos (by omega)] at kd kn
        exact ihm u _ _ _ (by omega) hmu (mLay_R hly hfu) (by omega) h25 hok.1 hfl (fun h1 v hfv hcv => kd h1 v (fR_trans hfu hfv) hcv) fun h1 v hfv => kn h1 v (fR_trans hfu hfv)
      · rw [if_neg (by omega)] at kd
        exact kd rfl u hfu hfl
    · rw [if_neg hz] at kn
      exact kn hz u hfu
theorem M_def_62 {p : Int} {F : List (Int × Int × Int)} {n' : Int} (hA : okA D) (h6 : D 0 < 6) (hp : zp8 p) (hI : fsI D F n') (m : Nat) : ∀ (i : Nat) (s : zSt), i + m = F.length → mRel s (dfN D p F i) H T → mFl s F → (∀ u, frm (fun a => a = 253) s u → mRel u (dfN D p F F.length) H T → Q (rI (D 0)) u) → wp S 222 62 [(0, rf 252), (3, iv i)] [] s Q := by
  have hD0 := hA.1.1
  have hF8 := hI.1
  induction m with
  | zero =>
    intro i s hi h hf k1
    have hiF : i = F.length := by omega
    subst hiF
    obtain ⟨d1, d2, _⟩ := dfN_ok hA h6 hp hI F.length (Nat.le_refl _)
    refine v_Model_define_62 ?_
    rw [hf.1]
    refine ⟨⟨by omega, by omega⟩, fun _ => ?_, fun hc => by omega⟩
    have e0 : zI s 253 0 - 1 = D 0 := by rw [h.1 0 (by omega) (by omega), d2]; omega
    rw [e0]
    exact k1 s frm_refl h
  | succ m ihm =>
    intro i s hi h hf k1
    obtain ⟨d1, d2, d3, d4, _⟩ := dfN_ok hA h6 hp hI i (by omega)
    obtain ⟨f1, f2, f3⟩ := hf.2 i (by omega)
    obtain ⟨g1, g2, g3, g4⟩ := hI.2.1 i (by omega)
    refine v_Model_define_62 ?_
    have e0 : zI s 253 0 - 1 = D 0 := by rw [h.1 0 (by omega) (by omega), d2]; omega
    rw [hf.1, e0, f1, f2, f3]
    refine ⟨⟨by omega, by omega⟩, fun hc => by omega, fun _ => ⟨⟨by omega, by omega⟩, ?_⟩⟩
    refine M_addsRow ⟨hD0.1, h6⟩ ⟨by rw [d4]; omega, by rw [d4]; omega⟩ h ⟨by omega, by omega⟩ (by rcases g2 with hh | hh | hh <;> exact ⟨by omega, by omega⟩) ⟨by omega, by omega⟩ fun u hfu hmu => zkU_U ?_
    exact ihm (i + 1) u (by omega) hmu ⟨(fI hfu (by omega)).trans hf.1, fun j hj => ⟨(fI hfu (by omega)).trans (hf.2 j hj).1, (fI hfu (by omega)).trans (hf.2 j hj).2.1, (fI hfu (by omega)).trans (hf.2 j hj).2.2⟩⟩ fun v hfv hmv => k1 v (frm_trans hfu hfv) hmv
theorem M_define {p : Int} (hA : okA D) (hT : okTx T) (h : mRel s D H T) (hp : rng p) (k1 : ¬ isPk p → ∀ u, frm modC s u → zI u 252 3 = 1 → mRel u D H T → Q (rI 0) u) (k2 : isPk p → D 0 = 6 → ∀ u, frm modC s u → zI u 252 3 = 2 → mRel u D H T → Q (rI 0) u) (k3 : isPk p → D 0 < 6 → (dfZ D T).1 ≠ -1 → ∀ u, frm modC s u → zI u 252 3 = 0 → mRel u D H T → Q (rI (-10 - (dfZ D T).1)) u) (k4 : isPk p → D 0 < 6 → (dfZ D T).1 = -1 → ∀ u, frm modC s u → zI u 252 3 = 0 → mRel u (dfN D p (dfZ D T).2 (dfZ D T).2.length) (pushH H D) T → Q (rI (D 0)) u) : wp S 222 0 [(0, rf 252), (1, iv p)] [] s Q := by
  have hD0 := hA.1.1
  have hn : zI s 253 0 = D 0 := h.1 0 (by omega) (by omega)
  have hm0 : ∀ v, mRel (zwI s 252 3 v) D H T := fun v => mRel_252 h ⟨by omega, by omega⟩
  have hf0 : ∀ v, frm modC s (zwI s 252 3 v) := fun v => frm_I frm_refl (by unfold modC; omega)
  refine v_Model_define_0 ?_
  rw [hn]
  refine ⟨hp, fun hc => ⟨fun h6 => ?_, fun h6 => k2 hc h6 _ (hf0 2) zI_eq (hm0 2)⟩, fun hc => k1 hc _ (hf0 1) zI_eq (hm0 1)⟩
  have h6 : D 0 < 6 := by omega
  have hb := rdP_b (D := D) hT 9 [] 0 0 (by omega)
  refine v_Model_reads_0 (C_lays hA.1 (hm0 0).1 fun t hft hlt => zkU_U ?_)
  have hmt := mRel_ly (hm0 0) hft
  have hm2 : mRel (zwI (zwI t 252 24 0) 252 25 0) D H T := mRel_252 (mRel_252 hmt ⟨by omega, by omega⟩) ⟨by omega, by omega⟩
  have hl2 : mLay (zwI (zwI t 252 24 0) 252 25 0) D (D 0) := mLay_252 (mLay_252 hlt)
  have h3t : zI (zwI (zwI t 252 24 0) 252 25 0) 252 3 = 0 := by rw [zI_nj (by omega), zI_nj (by omega), fI hft (by unfold cLy; omega), zI_eq]
  have hfs : frm modC s (zwI (zwI t 252 24 0) 252 25 0) := frm_I (frm_I (frm_trans (hf0 0) (cLy_mod hft)) (by unfold modC; omega)) (by unfold modC; omega)
  have hRm : ∀ {u}, fR (zwI (zwI t 252 24 0) 252 25 0) u → frm modC s u := fun hu => frm_trans hfs (frm_mono hu.1 fun a ha => by unfold rdC at ha; unfold modC; omega)
  refine M_reads_16 hA hT 9 _ [] 0 0 rfl hm2 hl2 (by omega) zI_eq (fsI_0 D) ⟨by rw [zI_nj (by omega), zI_eq]; rfl, fun i hi => absurd hi (Nat.not_lt_zero i)⟩ (fun hz u hfu hfl => zkI_I ⟨by omega, by omega⟩ ⟨fun _ => ?_, fun hcc => absurd rfl hcc⟩) fun hz u hfu => zkI_I ⟨by omega, by omega⟩ ⟨fun hcc => absurd hcc hz, fun _ => ?_⟩
  · obtain ⟨n', hI⟩ := rdP_ok (T := T) hA.1 9 [] 0 0 (fsI_0 D) hz
    change mFl u (dfZ D T).2 at hfl
    change fsI D (dfZ D T).2 n' at hI
    have hk4 := k4 hc h6 hz
    generalize (dfZ D T).2 = F at hfl hI hk4
    have hmu := mRel_R hm2 hfu
    have h3u : zI u 252 3 = 0 := (hfu.2 3 (by omega) (by omega) (by omega) (by omega)).trans h3t
    refine C_msaves hmu.1 hmu.2.1 fun w hfw h252 hpw => zkU_U ?_
    have hmw : mRel w D (pushH H D) T := ⟨fun j q0 q1 => (fI hfw (by omega)).trans (hmu.1 j q0 q1), hpw, (h252 5 (by omega)).trans hmu.2.2.1, fun i hi => (fI hfw (by omega)).trans (hmu.2.2.2 i hi)⟩
    have hflw : mFl w F := ⟨(h252 24 (by omega)).trans hfl.1, fun i hi => ⟨(fI hfw (by omega)).trans (hfl.2 i hi).1, (fI hfw (by omega)).trans (hfl.2 i hi).2.1, (fI hfw (by omega)).trans (hfl.2 i hi).2.2⟩⟩
    refine M_creates ⟨hD0.1, h6⟩ hmw hp fun x hfx hmx => zkU_U ?_
    refine M_def_62 hA h6 hc hI F.length 0 x (by omega) hmx ⟨(fI hfx (by omega)).trans hflw.1, fun i hi => ⟨(fI hfx (by omega)).trans (hflw.2 i hi).1, (fI hfx (by omega)).trans (hflw.2 i hi).2.1, (fI hfx (by omega)).trans (hflw.2 i hi).2.2⟩⟩ fun y hfy hmy => ?_
    refine hk4 y (frm_trans (hRm hfu) (frm_trans (frm_mono hfw fun a ha => by unfold modC; omega) (frm_trans (frm_mono hfx fun a ha => by unfold modC; omega) (frm_mono hfy fun a ha => by unfold modC; omega)))) ?_ hmy
    rw [fI hfy (by omega), fI hfx (by omega), h252 3 (by omega)]
    exact h3u
  · exact k3 hc h6 hz u (hRm hfu) ((hfu.2 3 (by omega) (by omega) (by omega) (by omega)).trans h3t) (mRel_R hm2 hfu)
end RFM
