/-! ===== simple calls of class and reference ===== -/
def upD (D : Int → Int) (j v : Int) : Int → Int := fun i => if i = j then v else D i
theorem upD_ne {D : Int → Int} {j v i : Int} (h : i ≠ j) : upD D j v i = D i := by unfold upD; rw [if_neg h]
theorem upD_eq {D : Int → Int} {j v : Int} : upD D j v j = v := by unfold upD; rw [if_pos rfl]
/-- the class's picture when a state was just saved -/
def cPre (s : zSt) (D : Int → Int) (H : List (Int → Int)) (T : List Int) : Prop := cSt s 3 D ∧ cSh s D (D 0) ∧ cRg s H ∧ cTx s T ∧ zI s 2 7 = -1
theorem cPre_Rel {s : zSt} {D : Int → Int} {H : List (Int → Int)} {T : List Int} (h : cPre s D H T) : cRel s D H T := ⟨h.1, h.2.1, h.2.2.1, h.2.2.2.1, .inl h.2.2.2.2⟩
theorem cPre_fr {P : Int → Prop} {s t : zSt} {D : Int → Int} {H : List (Int → Int)} {T : List Int} (h : cPre s D H T) (hD : okD D) (hH : okH H) (hf : frm P s t) (hn : ∀ a, cK a → ¬ P a) : cPre t D H T :=
  ⟨cSt_fr h.1 hD.1.2 hf fun x x0 x1 => hn x (by unfold cK; omega), cSh_fr h.2.1 hf fun x x0 x1 => hn x (by have := hD.1; unfold cK; omega), cRg_fr h.2.2.1 hH hf hn, cTx_fr h.2.2.2.1 hf ⟨hn _ (by unfold cK; omega), hn _ (by unfold cK; omega)⟩, (fI hf (hn _ (by unfold cK; omega))).trans h.2.2.2.2⟩
theorem okHs_push {H : List (Int → Int)} {D : Int → Int} (hH : okHs H) (hA : okA D) : okHs (pushH H D) := by
  have h4 := hH.1
  have htl : H.tail.length = H.length - 1 := List.length_tail
  unfold pushH
  by_cases hc : H.length < 4
  · rw [if_pos hc]
    refine ⟨by rw [List.length_append]; show H.length + 1 ≤ 4; omega, fun i hi => ?_⟩
    rw [List.length_append] at hi
    have h1 : ([D] : List (Int → Int)).length = 1 := rfl
    by_cases hi2 : i < H.length
    · rw [getD_app1 hi2]; exact hH.2 i hi2
    · rw [getD_app2 (by omega), show i - H.length = 0 by omega]; exact hA
  · rw [if_neg hc]
    refine ⟨by rw [List.length_append, htl]; show H.length - 1 + 1 ≤ 4; omega, fun i hi => ?_⟩
    rw [List.length_append, htl] at hi
    have h1 : ([D] : List (Int → Int)).length = 1 := rfl
    by_cases hi2 : i < H.length - 1
    · rw [getD_app1 (by omega), getD_tail]; exact hH.2 _ (by omega)
    · rw [getD_app2 (by omega), htl, show i - (H.length - 1) = 0 by omega]; exact hA
/-- only bytes are other -/
theorem cPre_mem {s t : zSt} {D D' : Int → Int} {H : List (Int → Int)} {T : List Int} (h : cPre s D H T) (hD : okD D) (hH : okH H) (hf : frm (fun x => x = 6) s t) (hag : agT D D') (hm : cMm t 6 D') : cPre t D' H T := by
  have e0 : D' 0 = D 0 := hag 0 (by omega) (by omega)
  obtain ⟨⟨a1, a2, a3, a4⟩, b, c, d, e⟩ := h
  have hD0 := hD.1
  refine ⟨⟨?_, ?_, ?_, hm⟩, ?_, ?_, cTx_fr d hf ⟨by omega, by omega⟩, (fI hf (by omega)).trans e⟩
  · rw [fI hf (by omega), e0]; exact a1
  · exact agR_cFl hD (agT_R hag) (cFl_fr a2 hf fun x x0 x1 => by omega)
  · intro u u0 u1
    have hq := cTb_fr (a3 u u0 u1) hf (by omega)
    have hz := agT_tab hag u0 u1
    unfold cTb at hq ⊢
    rw [hz.1]
    rcases hq with hq | ⟨q1, q2, q3⟩
    · exact .inl hq
    · exact .inr ⟨q1, q2, fun k k0 k1 => by rw [hag _ (by omega) (by omega)]; exact q3 k k0 k1⟩
  · exact agR_cSh hD (agT_R hag) (cSh_fr b hf fun x x0 x1 => by omega)
  · obtain ⟨r1, r2, r3⟩ := c
    have e3 : zI t 2 3 = zI s 2 3 := fI hf (by omega)
    refine ⟨by rw [e3]; exact r1, ⟨(fI hf (by omega)).trans r2.1, r2.2⟩, fun i hi => ?_⟩
    rw [e3]
    exact cSt_fr (r3 i hi) (hH i hi).1.2 hf fun x x0 x1 => by omega
theorem agT_put {D : Int → Int} {a n ord : Int} {v : Int64} (ha : 0 ≤ a) (hn : 0 ≤ n) : agT D (putV D a n ord v) := fun j q0 q1 => putV_out hn (by omega)
theorem okB_put {D : Int → Int} {a n ord : Int} {v : Int64} (h : okB D) : okB (putV D a n ord v) := putN_okB h _
theorem tab_adr {D : Int → Int} {t row : Int} {k : Nat} (hA : okA D) (hT : okTab D t) (hk : k < (gV (tG D t)).length) (h0 : 0 ≤ row ∧ row < tNr D t) : (0 ≤ adr D t row k ∧ adr D t row k + wd (gV (tG D t)) k ≤ 1024) ∧ okG (tG D t) ∧ 0 ≤ wd (gV (tG D t)) k := by
  obtain ⟨q1, q2, q3, q4, q5, q6, q7, q8⟩ := hT
  have hG : okG (tG D t) := okG_shp hA.1 q1.1 q1.2
  have hdi := dist_in hG q4 q3 hk h0.1 h0.2
  have hw8 := zp8_b (wd_8 (gV (tG D t)) k)
  unfold adr
  exact ⟨⟨by omega, by omega⟩, hG, by omega⟩
theorem wrD_okA {D : Int → Int} {t row : Int} {k : Nat} {v : Int64} (hA : okA D) (hT : okTab D t) (hk : k < (gV (tG D t)).length) (h0 : 0 ≤ row ∧ row < tNr D t) : agT D (wrD D t row k v) ∧ okA (wrD D t row k v) := by
  have hz := tab_adr hA hT hk h0
  have hag : agT D (wrD D t row k v) := agT_put hz.1.1 hz.2.2
  exact ⟨hag, agT_okA hA hag (okB_put hA.2.1)⟩
/-- a live table of the class -/
theorem cTb_live {s : zSt} {D : Int → Int} {t : Int} (hs : cSt s 3 D) (h0 : 0 ≤ t) (h1 : t < 3) : (zI s (31 + t) 0 ≠ 0 ↔ tRc D t ≠ -1) ∧ (tRc D t ≠ -1 → ∀ k, 0 ≤ k → k < 6 → zI s (31 + t) (k + 1) = D (157 + 6 * t + k)) := by
  have hz := hs.2.2.1 t h0 h1
  rw [show (3 : Int) + 28 + t = 31 + t by omega] at hz
  rcases hz with ⟨q1, q2⟩ | ⟨q1, q2, q3⟩
  · exact ⟨⟨fun hc => absurd q2 hc, fun hc => absurd q1 hc⟩, fun hc => absurd q1 hc⟩
  · exact ⟨⟨fun _ => q1, fun _ => by omega⟩, fun _ => q3⟩
section OPS1
variable {S : Option (Nat × (Nat → Int32))} {Q : Option Value ⊕ Nat → zSt → Prop} {s : zSt} {D : Int → Int} {H : List (Int → Int)} {T : List Int}
theorem X_save (hA : okA D) (hH : okHs H) (h : cRel s D H T) (k1 : ∀ t, frm clsC s t → cPre t D (pushH H D) T → Q rU t) : wp S 18 0 [(0, rf 2)] [] s Q := by
  obtain ⟨a, b, c, d, e⟩ := h
  have hD0 := hA.1.1
  refine C_save (okD_Ns hA.1) (okHs_H hH) a c fun t hft hrt h7 _ => ?_
  exact k1 t (frm_mono hft fun x hx => by unfold clsC; omega) ⟨cSt_fr a hA.1.1.2 hft fun x x0 x1 => by omega, cSh_fr b hft fun x x0 x1 => by omega, hrt, cTx_fr d hft ⟨by omega, by omega⟩, h7⟩
theorem M_saves (hm : mRel s D H T) (k1 : ∀ t, frm modC s t → zI t 252 3 = zI s 252 3 → mRel t D (pushH H D) T → Q rU t) : wp S 182 0 [(0, rf 252)] [] s Q := by
  obtain ⟨a, b, c⟩ := hm
  refine C_msaves a b fun t hft h252 hpt => k1 t (frm_mono hft fun x hx => by unfold modC; omega) (h252 3 (by omega)) ⟨fun j q0 q1 => (fI hft (by omega)).trans (a j q0 q1), hpt, (h252 5 (by omega)).trans c.1, fun i hi => (fI hft (by omega)).trans (c.2 i hi)⟩
/-! records -/
theorem X_records (h : cRel s D H T) (k1 : Q (rI (D 0)) s) : wp S 10 0 [(0, rf 2)] [] s Q := v_RL_records_0 (by rw [h.1.1]; exact k1)
theorem M_records (h : mRel s D H T) (k1 : ∀ t, frm modC s t → mRel t D H T → Q (rI (D 0)) t) : wp S 204 0 [(0, rf 252)] [] s Q :=
  v_Model_records_0 (by rw [h.1 0 (by omega) (by omega)]; exact k1 _ (frm_I frm_refl (by unfold modC; omega)) (mRel_252 h ⟨by omega, by omega⟩))
/-! memory -/
theorem X_memory {a : Int} (h : cRel s D H T) (ha : rng a) (k1 : ¬ (0 ≤ a ∧ a < 1024) → Q (rT 2) (zbump s)) (k2 : 0 ≤ a ∧ a < 1024 → Q (rI (D (175 + a))) s) : wp S 134 0 [(0, rf 2), (1, iv a)] [] s Q := by
  refine v_RL_memory_0 ⟨ha, fun hc => ⟨hc, ?_⟩, k1⟩
  have hz := h.1.2.2.2 a hc.1 hc.2
  rw [show (3 : Int) + 3 = 6 by omega] at hz
  rw [zand_255 hz.2, ← hz.1]
  exact k2 hc
theorem M_memory {a : Int} (h : mRel s D H T) (ha : rng a) (k1 : ¬ (0 ≤ a ∧ a < 1024) → ∀ t, frm modC s t → zI t 252 3 = 1 → mRel t D H T → Q (rI 0) t) (k2 : 0 ≤ a ∧ a < 1024 → ∀ t, frm modC s t → zI t 252 3 = 0 → mRel t D H T → Q (rI (D (175 + a))) t) : wp S 254 0 [(0, rf 252), (1, iv a)] [] s Q := by
  refine v_Model_memory_0 ⟨ha, fun hc => ⟨⟨by omega, by omega⟩, ?_⟩, fun hc => ?_⟩
  · rw [h.1 _ (by omega) (by omega)]
    exact k2 (by omega) _ (frm_I frm_refl (by unfold modC; omega)) (by rw [zI_eq]; exact bi_F (fun q => q hc)) (mRel_252 h ⟨by omega, by omega⟩)
  · exact k1 (by omega) _ (frm_I frm_refl (by unfold modC; omega)) (by rw [zI_eq]; exact bi_T hc) (mRel_252 h ⟨by omega, by omega⟩)
/-! poke -/
theorem X_poke {a v : Int} (hA : okA D) (hH : okHs H) (h : cRel s D H T) (ha : rng a) (hv : rng v) (k1 : ¬ (0 ≤ a ∧ a < 1024) → Q (rT 2) (zbump s)) (k2 : 0 ≤ a ∧ a < 1024 → ¬ (0 ≤ v ∧ v ≤ 255) → Q (rT 0) (zbump s)) (k3 : 0 ≤ a ∧ a < 1024 → 0 ≤ v ∧ v ≤ 255 → ∀ t, frm clsC s t → cRel t (upD D (175 + a) v) (pushH H D) T → Q (rI (D (175 + a))) t) : wp S 137 0 [(0, rf 2), (1, iv a), (2, iv v)] [] s Q := by
  refine v_RL_poke_0 ⟨ha, fun hc => ⟨hv, fun h0 => k2 hc (by omega), fun h0 => ⟨fun h1 => X_save hA hH h fun t hft hct => zkU_U ⟨hc, ?_⟩, fun h1 => k2 hc (by omega)⟩⟩, k1⟩
  have hz := hct.1.2.2.2 a hc.1 hc.2
  rw [show (3 : Int) + 3 = 6 by omega] at hz
  rw [zand_255 hz.2, ← hz.1]
  have hb := zi2b_b v
  refine k3 hc ⟨h0, h1⟩ _ (frm_I hft (by unfold clsC; omega)) (cPre_Rel (cPre_mem hct hA.1 (okHs_H (okHs_push hH hA)) (frm_I frm_refl rfl) (fun j q0 q1 => upD_ne (by omega)) fun j q0 q1 => ?_))
  by_cases hj : j = a
  · subst hj
    rw [upD_eq, zI_eq]
    refine ⟨?_, zi2b_b _⟩
    rw [zi2b_eq ⟨by omega, by omega⟩, zi2b_eq hv]
    unfold Int.bmod
    simp only
    repeat' split
    all_goals omega
  · rw [upD_ne (by omega), zI_nj hj]
    exact hct.1.2.2.2 j q0 q1
theorem M_poke {a v : Int} (h : mRel s D H T) (ha : rng a) (hv : rng v) (k1 : ¬ (0 ≤ a ∧ a < 1024) → ∀ t, frm modC s t → zI t 252 3 = 1 → mRel t D H T → Q (rI 0) t) (k2 : 0 ≤ a ∧ a < 1024 → ¬ (0 ≤ v ∧ v ≤ 255) → ∀ t, frm modC s t → zI t 252 3 = 2 → mRel t D H T → Q (rI 0) t) (k3 : 0 ≤ a ∧ a < 1024 → 0 ≤ v ∧ v ≤ 255 → ∀ t, frm modC s t → zI t 252 3 = 0 → mRel t (upD D (175 + a) v) (pushH H D) T → Q (rI (D (175 + a))) t) : wp S 255 0 [(0, rf 252), (1, iv a), (2, iv v)] [] s Q := by
  refine v_Model_poke_0 ⟨ha, fun hc => ⟨hv, fun h0 => M_saves (mRel_252 h (k := 3) ⟨by omega, by omega⟩) fun t hft h3 hmt => zkU_U ⟨⟨by omega, by omega⟩, ?_⟩, fun h0 => k2 (by omega) h0 _ (frm_I frm_refl (by unfold modC; omega)) zI_eq (mRel_252 h ⟨by omega, by omega⟩)⟩, fun hc => k1 (by omega) _ (frm_I frm_refl (by unfold modC; omega)) zI_eq (mRel_252 h ⟨by omega, by omega⟩)⟩
  rw [hmt.1 _ (by omega) (by omega)]
  refine k3 (by omega) h0 _ (frm_I (frm_trans (frm_I frm_refl (by unfold modC; omega)) hft) (by unfold modC; omega)) (by rw [zI_ne (by omega), h3, zI_eq]) ⟨fun j q0 q1 => ?_, ⟨⟨by rw [zI_ne (by omega)]; exact hmt.2.1.1.1, hmt.2.1.1.2⟩, fun i hi j q0 q1 => by rw [zI_ne (by omega)]; exact hmt.2.1.2 i hi j q0 q1⟩, by rw [zI_ne (by omega)]; exact hmt.2.2.1, fun i hi => by rw [zI_ne (by omega)]; exact hmt.2.2.2 i hi⟩
  by_cases hj : j = 175 + a
  · subst hj; rw [zI_eq, upD_eq]
  · rw [zI_nj hj, upD_ne hj]; exact hmt.1 j q0 q1
theorem poke_okA {a v : Int} (hA : okA D) (ha : 0 ≤ a ∧ a < 1024) (hv : 0 ≤ v ∧ v ≤ 255) : okA (upD D (175 + a) v) :=
  agT_okA hA (fun j q0 q1 => upD_ne (by omega)) fun j q0 q1 => by
    by_cases hj : j = a
    · subst hj; rw [upD_eq]; exact hv
    · rw [upD_ne (by omega)]; exact hA.2.1 j q0 q1
end OPS1
