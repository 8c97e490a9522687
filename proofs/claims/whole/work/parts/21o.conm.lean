/-! ===== convert of the reference ===== -/
theorem mgL_co {D : Int → Int} {t : Int} (hD : okD D) (hN : okNm D) (hr : 0 ≤ tRc D t ∧ tRc D t < D 0) : ∀ k : Nat, k ≤ (gV (tG D t)).length → mgL D t (tRc D t) k = coLs (vvD D t) (fun q => q) (tNr D t).toNat k := by
  intro k
  induction k with
  | zero => intro _; rfl
  | succ k ihk =>
    intro hk
    have hs : srcD D (tRc D t) (tRc D t) k = k := fstP_self hD hN hr.1 hr.2 (by unfold tG at hk; omega)
    show mgL D t (tRc D t) k ++ (if srcD D (tRc D t) (tRc D t) k = -1 then [] else mgC D t k (srcD D (tRc D t) (tRc D t) k).toNat (tNr D t).toNat) = _
    rw [coLs_s, ihk (by omega), hs, if_neg (by omega), Int.toNat_natCast]
    rfl
theorem co_ro {Vv : Nat → Nat → Int64} {n m : Nat} : (coLs Vv (fun q => q) n m).Perm (roLs Vv (fun q => q) m n) := by
  refine (List.perm_ext_iff_of_nodup coLs_nd (roLs_nd fun a b _ _ he => he)).mpr fun x => ?_
  exact coLs_mem.trans roLs_mem.symm
theorem mgD_ro {D : Int → Int} {t ly od : Int} (hA : okA D) (hN : okNm D) (hv : isLv D t) (h2 : 0 ≤ ly ∧ ly ≤ 8) (h3 : 0 ≤ od ∧ od ≤ 1) (hs : bseT D (tRc D t) (tNr D t) ly ≠ -1) : mgD D t (tRc D t) ly od = seqW (mgT D t (tRc D t) ly od) t (mgT D t (tRc D t) ly od) (roLs (vvD D t) (fun q => q) (gV (tG D t)).length (tNr D t).toNat) := by
  have hT := isLv_ok hA hv
  have hP := mgT_P (od := od) hA hv ⟨hT.1.1, hT.1.2⟩ hT.2.1 h2 h3 hs
  have hco := mgL_co (t := t) hA.1 hN hT.1 (gV (tG D t)).length (Nat.le_refl _)
  have hin := mgL_in hA hP ⟨hT.1.1, hT.1.2⟩ (Nat.le_refl (gV (shp D (tRc D t))).length)
  have hco' : mgL D t (tRc D t) (gV (shp D (tRc D t))).length = coLs (vvD D t) (fun q => q) (tNr D t).toNat (gV (tG D t)).length := hco
  unfold mgD
  rw [hco'] at hin ⊢
  refine seq_perm hP.1 hP.2.1 hin (fun p hp q hq he => ?_) co_ro
  obtain ⟨a, b, ha, hb, rfl⟩ := coLs_mem.mp hp
  obtain ⟨a', b', ha', hb', rfl⟩ := coLs_mem.mp hq
  have e1 : (a : Int) = (a' : Int) := congrArg Prod.fst he
  have e2 : b = b' := congrArg Prod.snd he
  have e3 : a = a' := by omega
  subst e3
  subst e2
  rfl
section OPS30
variable {S : Option (Nat × (Nat → Int32))} {Q : Option Value ⊕ Nat → zSt → Prop} {s : zSt} {D D' : Int → Int} {H : List (Int → Int)} {T : List Int}
theorem cvL_in {t : Int} (hA : okA D) (hv : isLv D t) (h : newP D D' t (tRc D t)) {n m : Nat} (hn : (n : Int) ≤ tNr D t) (hm : m ≤ (gV (tG D t)).length) : ∀ p ∈ roLs (vvD D t) (fun q => q) m n, inP D' t p.1 := fun p hp => by
  obtain ⟨r, l, hr, hl, rfl⟩ := roLs_mem.mp hp
  have hT := isLv_ok hA hv
  refine ⟨⟨by show (0 : Int) ≤ r; omega, ?_⟩, ?_⟩
  · show (r : Int) < tNr D' t
    rw [h.2.2.2.1]; omega
  · show l < _
    rw [newP_G hA h ⟨hT.1.1, hT.1.2⟩]
    show l < (gV (tG D t)).length
    omega
theorem cvR_in {t : Int} (hA : okA D) (hv : isLv D t) (h : newP D D' t (tRc D t)) {r m : Nat} (hr : (r : Int) < tNr D t) (hm : m ≤ (gV (tG D t)).length) : ∀ p ∈ roL (vvD D t) (fun q => q) r m, inP D' t p.1 := fun p hp => by
  obtain ⟨l, hl, rfl⟩ := roL_mem.mp hp
  have hT := isLv_ok hA hv
  refine ⟨⟨by show (0 : Int) ≤ r; omega, ?_⟩, ?_⟩
  · show (r : Int) < tNr D' t
    rw [h.2.2.2.1]; omega
  · show l < _
    rw [newP_G hA h ⟨hT.1.1, hT.1.2⟩]
    show l < (gV (tG D t)).length
    omega
theorem M_con_158 {t x6 : Int} {r : Nat} {L : List ((Int × Nat) × Int64)} (hA : okA D) (hv : isLv D t) (h : newP D D' t (tRc D t)) (hL : ∀ p ∈ L, inP D' t p.1) (hr : (r : Int) < tNr D t) (n : Nat) : ∀ (l : Nat) (s : zSt), l + n = (gV (tG D t)).length → mRel s (seqW D' t D' (L ++ roL (vvD D t) (fun q => q) r l)) H T → mLay s (seqW D' t D' (L ++ roL (vvD D t) (fun q => q) r l)) (seqW D' t D' (L ++ roL (vvD D t) (fun q => q) r l) 0) → mTk s D t (tNr D t).toNat → (∀ u, frm (fun x => x = 253) s u → mRel u (seqW D' t D' (L ++ roL (vvD D t) (fun q => q) r (gV (tG D t)).length)) H T → mLay u (seqW D' t D' (L ++ roL (vvD D t) (fun q => q) r (gV (tG D t)).length)) (seqW D' t D' (L ++ roL (vvD D t) (fun q => q) r (gV (tG D t)).length) 0) → wp S 257 144 [(0, rf 252), (1, iv t), (6, iv x6), (7, iv (r + 1))] [] u Q) → wp S 257 158 [(0, rf 252), (1, iv t), (6, iv x6), (7, iv r), (8, iv l)] [] s Q := by
  have hT := isLv_ok hA hv
  have h40 : (gV (tG D t)).length ≤ 40 := (okG_shp hA.1 hT.1.1 hT.1.2).2.1
  have hD0 := hA.1.1
  have h12 := hT.2.2.1
  have t0 := hv.1
  have t1 := hv.2.1
  have hr0 := hT.1.1
  have hr1 := hT.1.2
  have hLl : ∀ l : Nat, l ≤ (gV (tG D t)).length → ∀ p ∈ L ++ roL (vvD D t) (fun q => q) r l, inP D' t p.1 := fun l hl p hp => by
    rcases List.mem_append.mp hp with hp | hp
    · exact hL p hp
    · exact cvR_in hA hv h hr hl p hp
  have hG' : gV (tG D' t) = gV (tG D t) := by rw [newP_G hA h ⟨hr0, hr1⟩]; rfl
  induction n with
  | zero =>
    intro l s hl hm hly htk k1
    obtain ⟨e1, e2, e3⟩ := mE_cells h.1 h.2.1 (hLl l (by omega)) hm hly
    rw [h.2.2.1] at e1 e3
    rw [hG'] at e3
    refine v_Model_convert_158 ⟨⟨by omega, by omega⟩, ?_⟩
    rw [e1, e3]
    rw [show (gV (tG D t)).length = l by omega] at k1
    exact ⟨⟨by omega, by omega⟩, ⟨by omega, by omega⟩, fun _ => k1 s frm_refl hm hly, fun hc => by omega⟩
  | succ n ihn =>
    intro l s hl hm hly htk k1
    obtain ⟨e1, e2, e3⟩ := mE_cells h.1 h.2.1 (hLl l (by omega)) hm hly
    rw [h.2.2.1] at e1 e3
    rw [hG'] at e3
    have ev : zL s 272 (40 * (r : Int) + l) = valD D t r l := htk r (by omega) l (by omega)
    refine v_Model_convert_158 ⟨⟨by omega, by omega⟩, ?_⟩
    rw [e1, e3]
    refine ⟨⟨by omega, by omega⟩, ⟨by omega, by omega⟩, fun hc => by omega, fun _ => ⟨⟨by omega, by omega⟩, ?_⟩⟩
    rw [ev]
    refine MS_writes h.1 h.2.1 (hLl l (by omega)) hm hly ⟨⟨by show (0 : Int) ≤ r; omega, by show (r : Int) < tNr D' t; rw [h.2.2.2.1]; omega⟩, by show l < _; rw [hG']; omega⟩ fun u hfu hmu hlu => zkU_U ?_
    rw [List.append_assoc] at hmu hlu
    exact ihn (l + 1) u (by omega) (by rw [roL_s]; exact hmu) (by rw [roL_s]; exact hlu) (mTk_fr htk hfu (by omega)) fun w hfw => k1 w (frm_trans hfu hfw)
theorem M_con_144 {t x6 : Int} (hA : okA D) (hv : isLv D t) (h : newP D D' t (tRc D t)) (n : Nat) : ∀ (r : Nat) (s : zSt), (r : Int) + n = tNr D t → mRel s (seqW D' t D' (roLs (vvD D t) (fun q => q) (gV (tG D t)).length r)) H T → mLay s (seqW D' t D' (roLs (vvD D t) (fun q => q) (gV (tG D t)).length r)) (seqW D' t D' (roLs (vvD D t) (fun q => q) (gV (tG D t)).length r) 0) → mTk s D t (tNr D t).toNat → (∀ u, frm (fun x => x = 253) s u → mRel u (seqW D' t D' (roLs (vvD D t) (fun q => q) (gV (tG D t)).length (tNr D t).toNat)) H T → Q (rI x6) u) → wp S 257 144 [(0, rf 252), (1, iv t), (6, iv x6), (7, iv r)] [] s Q := by
  have hT := isLv_ok hA hv
  have h12 := hT.2.2.1
  have t0 := hv.1
  have t1 := hv.2.1
  induction n with
  | zero =>
    intro r s hr hm hly htk k1
    have e2 := (mE_cells h.1 h.2.1 (cvL_in hA hv h (by omega) (Nat.le_refl _)) hm hly).2.1
    rw [h.2.2.2.1] at e2
    rw [show (tNr D t).toNat = r by omega] at k1
    exact v_Model_convert_144 ⟨⟨by omega, by omega⟩, ⟨by omega, by omega⟩, fun _ => k1 s frm_refl hm, fun hc => by omega⟩
  | succ n ihn =>
    intro r s hr hm hly htk k1
    have e2 := (mE_cells h.1 h.2.1 (cvL_in hA hv h (by omega) (Nat.le_refl _)) hm hly).2.1
    rw [h.2.2.2.1] at e2
    refine v_Model_convert_144 ⟨⟨by omega, by omega⟩, ⟨by omega, by omega⟩, fun hc => by omega, fun _ => ?_⟩
    have hz := M_con_158 (S := S) (Q := Q) (H := H) (T := T) (x6 := x6) (r := r) (L := roLs (vvD D t) (fun q => q) (gV (tG D t)).length r) hA hv h (cvL_in hA hv h (by omega) (Nat.le_refl _)) (by omega) (gV (tG D t)).length 0 s (by omega) (by show mRel s (seqW D' t D' (roLs (vvD D t) (fun q => q) (gV (tG D t)).length r ++ [])) H T; rw [List.append_nil]; exact hm) (by show mLay s (seqW D' t D' (roLs (vvD D t) (fun q => q) (gV (tG D t)).length r ++ [])) (seqW D' t D' (roLs (vvD D t) (fun q => q) (gV (tG D t)).length r ++ []) 0); rw [List.append_nil]; exact hly) htk fun u hfu hmu hlu => by
      rw [← roLs_s] at hmu hlu
      exact ihn (r + 1) u (by omega) hmu hlu (mTk_fr htk hfu (by omega)) fun w hfw hmw => k1 w (frm_trans hfu hfw) hmw
    exact hz
theorem M_convert {t ly od : Int} (hA : okA D) (hN : okNm D) (h : mRel s D H T) (ht : rng t) (h2 : rng ly) (h3 : rng od) (k1 : ¬ isLv D t → ∀ u, frm modC s u → zI u 252 3 = 1 → mRel u D H T → Q (rI 0) u) (k2 : isLv D t → ¬ argC ly od → ∀ u, frm modC s u → zI u 252 3 = 2 → mRel u D H T → Q (rI 0) u) (k3 : isLv D t → argC ly od → bseT D (tRc D t) (tNr D t) ly = -1 → ∀ u, frm modC s u → zI u 252 3 = 3 → mRel u D H T → Q (rI 0) u) (k4 : isLv D t → argC ly od → bseT D (tRc D t) (tNr D t) ly ≠ -1 → ∀ u, frm modC s u → zI u 252 3 = 0 → mRel u (mgD D t (tRc D t) ly od) (pushH H D) T → Q (rI (bseT D (tRc D t) (tNr D t) ly)) u) : wp S 257 0 [(0, rf 252), (1, iv t), (2, iv ly), (3, iv od)] [] s Q := by
  have hD0 := hA.1.1
  have h252 : ∀ (v : Int) (u : zSt), frm cLy s u → frm modC s (zwI u 252 3 v) := fun v u hf => frm_I (cLy_mod hf) (by unfold modC; omega)
  have hm252 : ∀ (v : Int) (u : zSt), frm cLy s u → mRel (zwI u 252 3 v) D H T := fun v u hf => mRel_252 (mRel_ly h hf) ⟨by omega, by omega⟩
  have hlive : (0 ≤ t ∧ t ≤ 2 ∧ zI s 253 (157 + 6 * t) ≠ -1) ↔ isLv D t := by
    constructor
    · intro hq
      exact ⟨hq.1, by omega, by rw [← show zI s 253 (157 + 6 * t) = tRc D t from h.1 _ (by omega) (by omega)]; exact hq.2.2⟩
    · intro hq
      have a0 := hq.1
      have a1 := hq.2.1
      exact ⟨a0, by omega, by rw [show zI s 253 (157 + 6 * t) = tRc D t from h.1 _ (by omega) (by omega)]; exact hq.2.2⟩
  have hbad : ∀ x5 : Int, (x5 = 0 ∨ x5 = 1) → (isLv D t → x5 = 0 ∧ ¬ argC ly od) → wp S 257 73 [(0, rf 252), (1, iv t), (2, iv ly), (3, iv od), (4, iv (bi (0 ≤ t ∧ t ≤ 2 ∧ zI s 253 (157 + 6 * t) ≠ -1))), (5, iv x5), (6, iv (-1))] [] s Q := fun x5 hx hn =>
    v_Model_convert_73 ⟨bi_rng _, fun c4 => by
      have hv : isLv D t := hlive.mp (Classical.byContradiction fun hq => c4 (bi_0.mpr hq))
      refine ⟨⟨by omega, by omega⟩, fun c5 => absurd (hn hv).1 c5, fun c5 => k2 hv (hn hv).2 _ (h252 2 s frm_refl) zI_eq (hm252 2 s frm_refl)⟩, fun c4 => k1 (fun hv => bi_0.mp c4 (hlive.mpr hv)) _ (h252 1 s frm_refl) zI_eq (hm252 1 s frm_refl)⟩
  refine v_Model_convert_0 ⟨ht, h2, fun c2 => ⟨fun _ => hbad 0 (.inl rfl) fun _ => ⟨rfl, fun ha => c2 ha.1⟩, fun _ => hbad 0 (.inl rfl) fun _ => ⟨rfl, fun ha => c2 ha.1⟩⟩, fun c2 => ⟨h3, fun c3 => ⟨fun _ => hbad 0 (.inl rfl) fun _ => ⟨rfl, fun ha => c3 ha.2⟩, fun _ => hbad 0 (.inl rfl) fun _ => ⟨rfl, fun ha => c3 ha.2⟩⟩, fun c3 => ⟨fun c4 => hbad 1 (.inr rfl) fun hv => absurd (hlive.mpr hv) c4, fun c4 => ?_⟩⟩⟩
  have hv := hlive.mp c4
  have ha : argC ly od := ⟨c2, c3⟩
  have hT := isLv_ok hA hv
  have h12 := hT.2.2.1
  have t0 := hv.1
  have t1 := hv.2.1
  have hr0 := hT.1.1
  have hr1 := hT.1.2
  refine C_lays hA.1 h.1 fun x hfx hlx => zkU_U ⟨⟨by omega, by omega⟩, ⟨by omega, by omega⟩, ?_⟩
  have hmx := mRel_ly h hfx
  have e0 : zI x 253 (157 + 6 * t + 0) = tRc D t := by rw [Int.add_zero]; exact hmx.1 _ (by omega) (by omega)
  have e1 : zI x 253 (157 + 6 * t + 1) = tNr D t := hmx.1 _ (by omega) (by omega)
  rw [e0, e1]
  have hbr := bFor_r hA (r := tRc D t) ⟨hr0, hr1⟩ h12 c2
  refine C_bytesFor ⟨hr0, by omega⟩ (okG_shp hA.1 hr0 hr1) c2 h12 (hlx _ hr0 hr1) (zkI_I ⟨by omega, by omega⟩ ?_)
  have hyr : rng (bseT D (tRc D t) (tNr D t) ly) := by
    rcases roomD_in (D := D) (need := bFor (shp D (tRc D t)) (tNr D t) ly) 64 0 (by omega) (by omega) (by omega) with hq | hq <;> unfold bseT <;> exact ⟨by omega, by omega⟩
  refine M_room hA hmx.1 ⟨by omega, by omega⟩ (zkI_I hyr ?_)
  rw [show roomD D (bFor (shp D (tRc D t)) (tNr D t) ly) 64 0 = bseT D (tRc D t) (tNr D t) ly from rfl]
  have hb4 : bi (0 ≤ t ∧ t ≤ 2 ∧ zI s 253 (157 + 6 * t) ≠ -1) ≠ 0 := by rw [bi_T c4]; decide
  refine v_Model_convert_73 ⟨bi_rng _, fun _ => ⟨⟨by omega, by omega⟩, fun _ => ⟨hyr, fun hb => ?_, fun hb => k3 hv ha hb _ (h252 3 x hfx) zI_eq (hm252 3 x hfx)⟩, fun hc => by omega⟩, fun hc => absurd hc hb4⟩
  have hl0 : mLay (zwI x 252 3 0) D (D 0) := mLay_252 hlx
  have hm0 := hm252 0 x hfx
  refine C_msaves hm0.1 hm0.2.1 fun w hfw hw252 hpw => zkU_U ?_
  have hmw : mRel w D (pushH H D) T := ⟨fun j q0 q1 => (fI hfw (by omega)).trans (hm0.1 j q0 q1), hpw, (hw252 5 (by omega)).trans hm0.2.2.1, fun i hi => (fI hfw (by omega)).trans (hm0.2.2.2 i hi)⟩
  have hlw : mLay w D (D 0) := mLay_fr hl0 hfw fun a a0 a1 => by omega
  refine M_takes hA hv hmw hlw fun y hfy hty => zkU_U ?_
  have hmy : mRel y D (pushH H D) T := mRel_fr hmw hfy fun a a0 a1 => by omega
  have hly' : mLay y D (D 0) := mLay_fr hlw hfy fun a a0 a1 => by omega
  have f0 : zI y 253 (157 + 6 * t + 0) = tRc D t := by rw [Int.add_zero]; exact hmy.1 _ (by omega) (by omega)
  have f1 : zI y 253 (157 + 6 * t + 1) = tNr D t := hmy.1 _ (by omega) (by omega)
  rw [f0, f1]
  have hP := mgT_P (od := od) hA hv ⟨hr0, hr1⟩ hT.2.1 c2 c3 hb
  refine ⟨⟨by omega, by omega⟩, ⟨by omega, by omega⟩, M_anew hA hv ⟨hr0, hr1⟩ hT.2.1 c2 c3 hb hmy hly' fun z hfz hmz hlz => zkU_U ?_⟩
  refine M_con_144 (H := pushH H D) (T := T) hA hv hP (tNr D t).toNat 0 z (by omega) hmz hlz (mTk_fr hty hfz (by omega)) fun q hfq hmq => ?_
  rw [← mgD_ro hA hN hv c2 c3 hb] at hmq
  refine k4 hv ha hb q (frm_trans (h252 0 x hfx) (frm_trans (frm_mono hfw fun a ha => by unfold modC; omega) (frm_trans (frm_mono hfy fun a ha => by unfold modC; omega) (frm_trans (frm_mono hfz fun a ha => by unfold modC; omega) (frm_mono hfq fun a ha => by unfold modC; omega))))) ?_ hmq
  rw [fI hfq (by omega), fI hfz (by omega), fI hfy (by omega), hw252 3 (by omega), zI_eq]
end OPS30
