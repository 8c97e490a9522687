/-! ===== the class reads fields and the whole text ===== -/
def txC (a : Int) : Prop := 36 ≤ a ∧ a ≤ 40
def fTx (s t : zSt) : Prop := frm txC s t ∧ zI t 36 0 = zI s 36 0
theorem fTx_refl {s : zSt} : fTx s s := ⟨frm_refl, rfl⟩
theorem fTx_trans {s t u : zSt} (h : fTx s t) (k : fTx t u) : fTx s u := ⟨frm_trans h.1 k.1, k.2.trans h.2⟩
theorem fTx_at {s t : zSt} (h : fAt s t) : fTx s t := ⟨frm_mono h.1 fun a ha => by unfold txC; omega, h.2 0 (by omega)⟩
theorem cTx_tx {s t : zSt} {T : List Int} (h : cTx s T) (hf : fTx s t) : cTx t T := ⟨hf.2.trans h.1, fun i hi => (fI hf.1 (by unfold txC; omega)).trans (h.2 i hi)⟩
theorem cRel_tx {s t : zSt} {D : Int → Int} {H : List (Int → Int)} {T : List Int} (h : cRel s D H T) (hD : okD D) (hH : okH H) (hf : fTx s t) : cRel t D H T := by
  obtain ⟨a, b, c, d, e⟩ := h
  have hn : ∀ x, cK x → x ≠ 36 → ¬ txC x := fun x hx h6 => by unfold cK at hx; unfold txC; omega
  refine ⟨cSt_fr a hD.1.2 hf.1 fun x x0 x1 => by unfold txC; omega, cSh_fr b hf.1 fun x x0 x1 => by unfold txC; omega, ?_, cTx_tx d hf, ?_⟩
  · obtain ⟨r1, r2, r3⟩ := c
    have e3 : zI t 2 3 = zI s 2 3 := fI hf.1 (by unfold txC; omega)
    have e4 : zI t 2 4 = zI s 2 4 := fI hf.1 (by unfold txC; omega)
    refine ⟨by rw [e3]; exact r1, ⟨e4.trans r2.1, r2.2⟩, fun i hi => ?_⟩
    rw [e3]
    exact cSt_fr (r3 i hi) (hH i hi).1.2 hf.1 fun x x0 x1 => by unfold txC; omega
  · have e7 : zI t 2 7 = zI s 2 7 := fI hf.1 (by unfold txC; omega)
    have e0 : zI t 42 0 = zI s 42 0 := fI hf.1 (by unfold txC; omega)
    have e1 : (fun k : Nat => zI t 43 k) = fun k : Nat => zI s 43 k := funext fun k => fI hf.1 (by unfold txC; omega)
    unfold cBs
    rw [e7, e0, e1]
    exact e
section RFX
variable {S : Option (Nat × (Nat → Int32))} {Q : Option Value ⊕ Nat → zSt → Prop} {s : zSt} {D : Int → Int} {T : List Int}
theorem C_hasDraft {F : List (Int × Int × Int)} {c pk : Int} (hl : F.length ≤ 8) (hc : rng c) (hf : cFld s 37 pk F.length (fD F)) (k1 : Q (rI (bi (∃ i : Nat, i < F.length ∧ (fD F i).1 = c))) s) : wp S 55 0 [(0, rf 37), (1, iv c)] [] s Q := by
  have h1 := hf.2.1
  have hloop : ∀ (n i : Nat), i + n = F.length → (∀ j, j < i → (fD F j).1 ≠ c) → wp S 55 2 [(0, rf 37), (1, iv c), (2, iv i)] [] s Q := by
    intro n
    induction n with
    | zero =>
      intro i hi hno
      refine v_Fields_hasName_2 lf_37 ⟨⟨by omega, by omega⟩, fun _ => ?_, fun hc => by omega⟩
      rw [bi_F (fun ⟨j, j1, j2⟩ => hno j (by omega) j2)] at k1
      exact k1
    | succ n ihn =>
      intro i hi hno
      have hnm := (hf.2.2 i (by omega)).1
      refine v_Fields_hasName_2 lf_37 ⟨⟨by omega, by omega⟩, fun hc => by omega, fun _ => ⟨⟨by omega, by omega⟩, hc, ?_⟩⟩
      rw [hnm]
      refine ⟨fun hne => ihn (i + 1) (by omega) fun j hj => ?_, fun he => ?_⟩
      · by_cases hji : j = i
        · subst hji; exact hne
        · exact hno j (by omega)
      · rw [bi_T ⟨i, by omega, he⟩] at k1
        exact k1
  exact v_Fields_hasName_0 lf_37 (hloop F.length 0 (by omega) fun j hj => absurd hj (Nat.not_lt_zero j))
/-- a field is added, and a sign waited for -/
theorem C_rf_add {F : List (Int × Int × Int)} {c ty ct x : Int} {k : Nat} (hT : okTx T) (ht : cTx s T) (ha : zI s 36 3 = (k : Int)) (hk : k ≤ 300) (hl : F.length < 8) (hf : cFld s 37 1 F.length (fD F)) (hc : rng c) (hty : rng ty) (hct : rng ct)
    (ky : ltr T k = 59 ∧ x ≤ 40 → ∀ u, fTx s u → zI u 36 3 = (k : Int) + 1 → zI u 36 4 = x → cFld u 37 1 (F.length + 1 : Nat) (fD (F ++ [(c, ty, ct)])) → Q (rI 1) u) (kn : ¬ (ltr T k = 59 ∧ x ≤ 40) → ∀ u, fTx s u → zI u 36 3 = (k : Int) → Q (rI 0) u) :
    wp S 21 0 [(0, rf 37), (1, iv c), (2, iv ty), (3, iv ct)] [] (zwI s 36 4 x) (fun o29 s29 => zkU ((40 < (zI s29 36 4) → Q (rI 0) s29) ∧ ((zI s29 36 4) ≤ 40 → (0 ≤ zI s29 36 3 → zI s29 36 3 < zI s29 36 0 → zI s29 36 3 < 80) ∧ (rng (zI s29 36 3 + 1) ∧ ((zsg (zI s29 36 3) (zI s29 36 0) (zI s29 41 (zI s29 36 3)) = 59 → Q (rI 1) (zwI s29 36 3 (zI s29 36 3 + 1))) ∧ ((zsg (zI s29 36 3) (zI s29 36 0) (zI s29 41 (zI s29 36 3)) ≠ 59 → Q (rI 0) s29)))))) (fun e29 => False) o29) := by
  have hT8 := hT.1
  have hlt := ht.1
  have e1 : zI (zwI s 36 4 x) 37 1 = (F.length : Int) := by rw [zI_ne (by omega)]; exact hf.2.1
  refine v_Fields_add_0 lf_37 ?_
  rw [e1]
  refine ⟨fun _ => ⟨⟨by omega, by omega⟩, hc, hty, hct, ⟨by omega, by omega⟩, zkU_U ?_⟩, fun hc => by omega⟩
  have hfx : fTx s (zwI (zwI (zwI (zwI (zwI s 36 4 x) (37 + 1) F.length c) (37 + 2) F.length ty) (37 + 3) F.length ct) 37 1 ((F.length : Int) + 1)) := ⟨frm_I (frm_I (frm_I (frm_I (frm_I frm_refl (by unfold txC; omega)) (by unfold txC; omega)) (by unfold txC; omega)) (by unfold txC; omega)) (by unfold txC; omega), by rw [zI_ne (by omega), zI_ne (by omega), zI_ne (by omega), zI_ne (by omega), zI_nj (by omega)]⟩
  have hold : ∀ i : Nat, i < F.length → fD (F ++ [(c, ty, ct)]) i = fD F i := fun i hi => getD_app1 hi
  have hnew : fD (F ++ [(c, ty, ct)]) F.length = (c, ty, ct) := by
    show List.getD _ _ _ = _
    rw [getD_app2 (Nat.le_refl _), Nat.sub_self]; rfl
  have hfl : cFld (zwI (zwI (zwI (zwI (zwI s 36 4 x) (37 + 1) F.length c) (37 + 2) F.length ty) (37 + 3) F.length ct) 37 1 ((F.length : Int) + 1)) 37 1 (F.length + 1 : Nat) (fD (F ++ [(c, ty, ct)])) := by
    refine ⟨?_, by rw [zI_eq]; omega, fun i hi => ?_⟩
    · rw [zI_nj (by omega), zI_ne (by omega), zI_ne (by omega), zI_ne (by omega), zI_ne (by omega)]; exact hf.1
    · by_cases hiF : i = F.length
      · subst hiF
        rw [hnew]
        refine ⟨?_, ?_, ?_⟩
        · rw [zI_ne (by omega), zI_ne (by omega), zI_ne (by omega), zI_eq]
        · rw [zI_ne (by omega), zI_ne (by omega), zI_eq]
        · rw [zI_ne (by omega), zI_eq]
      · obtain ⟨w1, w2, w3⟩ := hf.2.2 i (by omega)
        rw [hold i (by omega)]
        refine ⟨?_, ?_, ?_⟩
        · rw [zI_ne (by omega), zI_ne (by omega), zI_ne (by omega), zI_nj (by omega), zI_ne (by omega)]; exact w1
        · rw [zI_ne (by omega), zI_ne (by omega), zI_nj (by omega), zI_ne (by omega), zI_ne (by omega)]; exact w2
        · rw [zI_ne (by omega), zI_nj (by omega), zI_ne (by omega), zI_ne (by omega), zI_ne (by omega)]; exact w3
  have e4 : zI (zwI (zwI (zwI (zwI (zwI s 36 4 x) (37 + 1) F.length c) (37 + 2) F.length ty) (37 + 3) F.length ct) 37 1 ((F.length : Int) + 1)) 36 4 = x := by rw [zI_ne (by omega), zI_ne (by omega), zI_ne (by omega), zI_ne (by omega), zI_eq]
  have e3 : zI (zwI (zwI (zwI (zwI (zwI s 36 4 x) (37 + 1) F.length c) (37 + 2) F.length ty) (37 + 3) F.length ct) 37 1 ((F.length : Int) + 1)) 36 3 = (k : Int) := by rw [zI_ne (by omega), zI_ne (by omega), zI_ne (by omega), zI_ne (by omega), zI_nj (by omega)]; exact ha
  have hcx := cTx_tx ht hfx
  generalize zwI (zwI (zwI (zwI (zwI s 36 4 x) (37 + 1) F.length c) (37 + 2) F.length ty) (37 + 3) F.length ct) 37 1 ((F.length : Int) + 1) = w at hfx hfl e4 e3 hcx ⊢
  have hlw := hcx.1
  rw [e4, e3, c_sg hcx k]
  refine ⟨fun h40 => kn (fun hh => by omega) w hfx e3, fun h40 => ⟨fun _ _ => by omega, ⟨by omega, by omega⟩, fun hs => ?_, fun hs => kn (fun hh => hs hh.1) w hfx e3⟩⟩
  refine ky ⟨hs, h40⟩ _ (fTx_trans hfx (fTx_at (fAt_w fAt_refl))) zI_eq (by rw [zI_nj (by omega)]; exact e4) (cFld_fr hfl (frm_I (P := fun a => a = 36) frm_refl rfl) fun y y0 y1 => by omega)
theorem C_rfield {F : List (Int × Int × Int)} {n : Int} {k : Nat} (hA : okA D) (hsh : cSh s D (D 0)) (hT : okTx T) (ht : cTx s T) (ha : zI s 36 3 = (k : Int)) (hk : k ≤ 80) (hn : zI s 36 4 = n) (hI : fsI D F n) (hf : cFld s 37 1 F.length (fD F))
    (ky : (rfP D T F n k).1 = -1 → ∀ u, fTx s u → zI u 36 3 = ((rfP D T F n k).2.2.2 : Int) → zI u 36 4 = (rfP D T F n k).2.2.1 → cFld u 37 1 (rfP D T F n k).2.1.length (fD (rfP D T F n k).2.1) → Q (rI 1) u) (kn : (rfP D T F n k).1 ≠ -1 → ∀ u, fTx s u → zI u 36 3 = (rfP D T F n k).1 → Q (rI 0) u) :
    wp S 93 0 [(0, rf 36), (1, rf 34), (2, iv (D 0))] [] s Q := by
  have hl := ht.1
  have hT8 := hT.1
  have e0 := c_sg ht k
  have e1 := c_sg1 ht k
  have hb := ltr_b hT k
  have hF8 := hI.1
  have hn0 := hI.2.2.2.2
  have hNo : ¬ nmP F (ltr T k) → Q (rI 0) s := fun hh => by
    have e : rfP D T F n k = ((k : Int), [], 0, 0) := by unfold rfP; rw [if_neg hh]
    rw [e] at kn
    exact kn (by show (k : Int) ≠ -1; omega) s fTx_refl ha
  refine v_Text_readField_0 ?_
  rw [ha, e0]
  refine ⟨fun _ _ => by omega, ⟨by omega, by omega⟩, fun c1 => hNo fun hh => by have := hh.1; omega, fun c1 => ⟨fun c2 => hNo fun hh => by have := hh.1; omega, fun c2 => ?_⟩⟩
  refine C_hasDraft hF8 ⟨by omega, by omega⟩ hf (zkI_I (bi_rng _) ⟨fun hy => hNo fun hh => ?_, fun hy => ?_⟩)
  · refine hy (bi_0.mpr fun ⟨i, i1, i2⟩ => hh.2.2 i i1 i2)
  have hfree := bi_0.mp hy
  rw [hf.2.1, ha, e1]
  refine ⟨fun c3 => ⟨⟨by omega, by omega⟩, fun _ _ => by omega, ⟨by omega, by omega⟩, fun c4 => ?_, fun c4 => ?_⟩, fun c3 => hNo fun hh => by have := hh.2.1; omega⟩
  have hnm : nmP F (ltr T k) := ⟨⟨c1, c2⟩, by omega, fun i hi hc => hfree ⟨i, hi, hc⟩⟩
  · have e : rfP D T F n k = rf3 D T F n (ltr T k) (rtP D T (k + 2)) := by unfold rfP; rw [if_pos hnm, if_pos c4]
    rw [e] at ky kn
    have hfa : fAt s (zwI (zwI s 36 3 ((k : Int) + 1)) 36 3 ((k : Int) + 1 + 1)) := fAt_w (fAt_w fAt_refl)
    have ha2 : zI (zwI (zwI s 36 3 ((k : Int) + 1)) 36 3 ((k : Int) + 1 + 1)) 36 3 = ((k + 2 : Nat) : Int) := by rw [zI_eq]; omega
    -- what comes behind a type
    have hrest : ∀ (t : zSt) (ty : Int) (k2 : Nat), fAt s t → zI t 36 3 = (k2 : Int) → k2 ≤ 90 → rng ty → okTy D ty → ((rcP T ty k2).1 = -1 → ∀ u, fAt t u → zI u 36 3 = ((rcP T ty k2).2.2 : Int) → wp S 21 0 [(0, rf 37), (1, iv (ltr T k)), (2, iv ty), (3, iv (rcP T ty k2).2.1)] [] (zwI u 36 4 (n + (rcP T ty k2).2.1 * (tyL (shp D) ty : Int))) (fun o29 s29 => zkU ((40 < (zI s29 36 4) → Q (rI 0) s29) ∧ ((zI s29 36 4) ≤ 40 → (0 ≤ zI s29 36 3 → zI s29 36 3 < zI s29 36 0 → zI s29 36 3 < 80) ∧ (rng (zI s29 36 3 + 1) ∧ ((zsg (zI s29 36 3) (zI s29 36 0) (zI s29 41 (zI s29 36 3)) = 59 → Q (rI 1) (zwI s29 36 3 (zI s29 36 3 + 1))) ∧ ((zsg (zI s29 36 3) (zI s29 36 0) (zI s29 41 (zI s29 36 3)) ≠ 59 → Q (rI 0) s29)))))) (fun e29 => False) o29)) → ((rcP T ty k2).1 ≠ -1 → ∀ u, fAt t u → zI u 36 3 = (rcP T ty k2).1 → Q (rI 0) u) →
        wp S 100 0 [(0, rf 36), (1, iv ty)] [] t (fun o23 s23 => zkI (fun y23 => (y23 ≠ (-1) → (ty < 100 → rng ((zI s23 36 4) + (y23 * 1)) ∧ (wp S 21 0 [(0, rf 37), (1, iv (ltr T k)), (2, iv ty), (3, iv y23)] [] (zwI s23 36 4 ((zI s23 36 4) + (y23 * 1))) (fun o29 s29 => zkU ((40 < (zI s29 36 4) → Q (rI 0) s29) ∧ ((zI s29 36 4) ≤ 40 → (0 ≤ zI s29 36 3 → zI s29 36 3 < zI s29 36 0 → zI s29 36 3 < 80) ∧ (rng (zI s29 36 3 + 1) ∧ ((zsg (zI s29 36 3) (zI s29 36 0) (zI s29 41 (zI s29 36 3)) = 59 → Q (rI 1) (zwI s29 36 3 (zI s29 36 3 + 1))) ∧ ((zsg (zI s29 36 3) (zI s29 36 0) (zI s29 41 (zI s29 36 3)) ≠ 59 → Q (rI 0) s29)))))) (fun e29 => False) o29))) ∧ (100 ≤ ty → (0 ≤ (ty - 100) ∧ (ty - 100) < 6) ∧ (rng ((zI s23 36 4) + (y23 * (zI s23 (67 + 11 * (ty - 100)) 0))) ∧ (wp S 21 0 [(0, rf 37), (1, iv (ltr T k)), (2, iv ty), (3, iv y23)] [] (zwI s23 36 4 ((zI s23 36 4) + (y23 * (zI s23 (67 + 11 * (ty - 100)) 0)))) (fun o41 s41 => zkU ((40 < (zI s41 36 4) → Q (rI 0) s41) ∧ ((zI s41 36 4) ≤ 40 → (0 ≤ zI s41 36 3 → zI s41 36 3 < zI s41 36 0 → zI s41 36 3 < 80) ∧ (rng (zI s41 36 3 + 1) ∧ ((zsg (zI s41 36 3) (zI s41 36 0) (zI s41 41 (zI s41 36 3)) = 59 → Q (rI 1) (zwI s41 36 3 (zI s41 36 3 + 1))) ∧ ((zsg (zI s41 36 3) (zI s41 36 0) (zI s41 41 (zI s41 36 3)) ≠ 59 → Q (rI 0) s41)))))) (fun e41 => False) o41))))) ∧ (y23 = (-1) → Q (rI 0) s23)) (fun e23 => False) o23) := by
      intro t ty k2 hft hat hk2 hrty hty hyes hno
      have hL := okTy_L hA.1 hty
      have hD0 := hA.1.1
      refine C_rcount hT (cTx_at ht hft) hat (by omega) hrty ⟨fun hz u hfu hau => ?_, fun hz u hfu hau => zkI_I ⟨by omega, by omega⟩ ⟨fun hc => absurd rfl hc, fun _ => hno hz u hfu hau⟩⟩
      have hc := (rcP_ok (T := T) (ty := ty) (k := k2)).2 hz
      have h4 : zI u 36 4 = n := by rw [hfu.2 4 (by omega), hft.2 4 (by omega)]; exact hn
      have hp : 0 ≤ (rcP T ty k2).2.1 * (tyL (shp D) ty : Int) := Int.mul_nonneg (by omega) (by omega)
      have hp2 : (rcP T ty k2).2.1 * (tyL (shp D) ty : Int) ≤ 4 * 40 := Int.mul_le_mul hc.1.2 (by omega) (by omega) (by omega)
      have hgo := hyes hz u hfu hau
      refine zkI_I ⟨by omega, by omega⟩ ⟨fun _ => ⟨fun hlt => ?_, fun hge => ?_⟩, fun hc1 => by omega⟩
      · have hL1 : (tyL (shp D) ty : Int) = 1 := by unfold tyL; rw [if_pos hlt]; rfl
        rw [hL1] at hgo
        rw [h4]
        exact ⟨⟨by omega, by omega⟩, hgo⟩
      · have h3 : ty - 100 < D 0 ∧ 0 < dN D (ty - 100) := by rcases hty with hh | hh | hh <;> omega
        have hcs := (hsh (ty - 100) (by omega) h3.1).2.2.2.2.2.1
        rw [show 62 + 11 * (ty - 100) + 5 = 67 + 11 * (ty - 100) by omega] at hcs
        have hu5 : zI u (67 + 11 * (ty - 100)) 0 = (tyL (shp D) ty : Int) := by
          rw [fI hfu.1 (by omega), fI hft.1 (by omega), hcs]
          unfold tyL
          rw [if_neg (by omega)]
        rw [h4, hu5]
        exact ⟨⟨by omega, by omega⟩, ⟨by omega, by omega⟩, hgo⟩
    have hrt := rtP_ok (D := D) (T := T) (k := k + 2)
    refine C_rtype (k := k + 2) hA (cSh_fr hsh hfa.1 fun x x0 x1 => by omega) hT (cTx_at ht hfa) ha2 (by omega) ⟨fun hz t hft hat => ?_, fun hz t hft hat => ?_⟩ fun h37 hsp t hft hat => ?_
    · have hty := hrt.2 hz
      have hD0 := hA.1.1
      have hrty : rng (rtP D T (k + 2)).2.1 := by rcases hty with hh | hh | hh <;> exact ⟨by omega, by omega⟩
      have hto : (rtP D T (k + 2)).2.2 ≤ 90 := by rcases hrt.1 with hh | hh <;> omega
      have hft2 := fAt_trans hfa hft
      have e3 : ∀ z, rf3 D T F n (ltr T k) (rtP D T (k + 2)) = z → rf4 D T F n (ltr T k) (rtP D T (k + 2)).2.1 (rcP T (rtP D T (k + 2)).2.1 (rtP D T (k + 2)).2.2) = z := fun z hh => by rw [← hh]; unfold rf3; rw [if_pos hz]
      rw [← e3 _ rfl] at ky kn
      refine zkI_I hrty ⟨fun _ => hrest t _ _ hft2 hat hto hrty hty (fun hw u hfu hau => ?_) fun hw u hfu hau => ?_, fun hc => by rcases hty with hh | hh | hh <;> omega⟩
      · have hc := (rcP_ok (T := T) (ty := (rtP D T (k + 2)).2.1) (k := (rtP D T (k + 2)).2.2))
        have hcc := hc.2 hw
        have hto2 : (rcP T (rtP D T (k + 2)).2.1 (rtP D T (k + 2)).2.2).2.2 ≤ 100 := by rcases hc.1 with hh | hh <;> omega
        have hfu2 := fAt_trans hft2 hfu
        refine C_rf_add hT (cTx_at ht hfu2) hau (by omega) (by omega) (cFld_fr hf hfu2.1 fun x x0 x1 => by omega) ⟨by omega, by omega⟩ hrty ⟨by omega, by omega⟩ (fun hh v hfv h3v h4v hcv => ?_) fun hh v hfv h3v => ?_
        · unfold rf4 at ky
          rw [if_pos hw, if_pos hh] at ky
          refine ky rfl v (fTx_trans (fTx_at hfu2) hfv) (by rw [h3v]; show _ = (((_ + 1 : Nat)) : Int); omega) h4v ?_
          show cFld v 37 1 ((F ++ [_]).length) _
          rw [List.length_append]
          exact hcv
        · unfold rf4 at kn
          rw [if_pos hw, if_neg hh] at kn
          exact kn (by show (((rcP T (rtP D T (k + 2)).2.1 (rtP D T (k + 2)).2.2).2.2 : Nat) : Int) ≠ -1; omega) v (fTx_trans (fTx_at hfu2) hfv) h3v
      · unfold rf4 at kn
        rw [if_neg hw] at kn
        exact kn hw u (fTx_at (fAt_trans hft2 hfu)) hau
    · refine zkI_I ⟨by omega, by omega⟩ ⟨fun hc => absurd rfl hc, fun _ => ?_⟩
      unfold rf3 at kn
      rw [if_neg hz] at kn
      exact kn hz t (fTx_at (fAt_trans hfa hft)) hat
    · -- a width that is too large: a digit stands where a sign is waited for
      have hP : rtP D T (k + 2) = (((k + 2 : Nat) : Int) + 2, 0, 0) := by
        unfold rtP
        rw [if_neg (by omega), if_neg (by omega), if_neg (by omega), if_neg (by omega), if_pos h37]
        exact spW_P hsp
      have hkn := kn
      unfold rf3 at hkn
      rw [hP, if_neg (show ¬ (((k + 2 : Nat) : Int) + 2 = -1) by omega)] at hkn
      have hs1 := hsp.1
      have hs2 := hsp.2.1
      have hft2 := fAt_trans hfa hft
      have hty : okTy D (20 + (ltr T (k + 2 + 1) - 48)) := .inr (.inl ⟨by omega, by omega⟩)
      have hrc : rcP T (20 + (ltr T (k + 2 + 1) - 48)) (k + 2 + 2) = (-1, 1, k + 2 + 2) := by unfold rcP; rw [if_neg (fun hh => hh.2 ⟨by omega, by omega⟩)]
      have hrty : rng (20 + (ltr T (k + 2 + 1) - 48)) := ⟨by omega, by omega⟩
      refine zkI_I hrty ⟨fun _ => hrest t _ (k + 2 + 2) hft2 (by rw [hat]; omega) (by omega) hrty hty (fun hw u hfu hau => ?_) fun hw u hfu hau => ?_, fun hc => by omega⟩
      · have hfu2 := fAt_trans hft2 hfu
        rw [hrc] at hau ⊢
        refine C_rf_add (k := k + 2 + 2) hT (cTx_at ht hfu2) hau (by omega) (by omega) (cFld_fr hf hfu2.1 fun x x0 x1 => by omega) ⟨by omega, by omega⟩ hrty ⟨by show (-2147483648 : Int) ≤ 1; omega, by show (1 : Int) ≤ 2147483647; omega⟩ (fun hh => by have := hh.1; omega) fun hh v hfv h3v => ?_
        refine hkn (show ((k + 2 : Nat) : Int) + 2 ≠ -1 by omega) v (fTx_trans (fTx_at hfu2) hfv) ?_
        rw [h3v]
        show _ = ((k + 2 : Nat) : Int) + 2
        omega
      · rw [hrc] at hw
        exact absurd rfl hw
  · have hnm : nmP F (ltr T k) := ⟨⟨c1, c2⟩, by omega, fun i hi hc => hfree ⟨i, hi, hc⟩⟩
    have e : rfP D T F n k = ((k : Int) + 1, [], 0, 0) := by unfold rfP; rw [if_pos hnm, if_neg c4]
    rw [e] at kn
    exact kn (by show (k : Int) + 1 ≠ -1; omega) _ (fTx_at (fAt_w fAt_refl)) zI_eq
end RFX
