/-! ===== convert and migrate of the reference ===== -/
section OPS29
variable {S : Option (Nat × (Nat → Int32))} {Q : Option Value ⊕ Nat → zSt → Prop} {s : zSt} {D D' : Int → Int} {H : List (Int → Int)} {T : List Int}
/-- values are taken, and the table stands anew -/
theorem M_anew {t o ly od : Int} (hA : okA D) (hv : isLv D t) (ho : hasRc D o) (hd : 0 < dN D o) (h2 : 0 ≤ ly ∧ ly ≤ 8) (h3 : 0 ≤ od ∧ od ≤ 1) (hs : bseT D o (tNr D t) ly ≠ -1) (hm : mRel s D H T) (hly : mLay s D (D 0)) (k1 : ∀ u, frm (fun x => x = 253) s u → mRel u (mgT D t o ly od) H T → mLay u (mgT D t o ly od) (mgT D t o ly od 0) → Q rU u) : wp S 237 0 [(0, rf 252), (1, iv t), (2, iv o), (3, iv (tNr D t)), (4, iv ly), (5, iv od), (6, iv (bseT D o (tNr D t) ly))] [] s Q := by
  have h1 := (isLv_ok hA hv).2.2.1
  obtain ⟨z1, z2, z3, z4, z5⟩ := mg_in hA ho hd h1 h2 hs
  have hP := mgT_P (od := od) hA hv ho hd h2 h3 hs
  refine M_stands hA hm hly ⟨hv.1, hv.2.1⟩ ho h1 h2 h3 z2.1 (by omega) (by omega) fun u hfu hmu => k1 u hfu hmu ?_
  exact mLay_ag hA.1 hP.2.2.2.2.1 (mLay_fr hly hfu fun a a0 a1 => by omega)
theorem M_mig_198 {t o x8 : Int} {k src : Nat} {L : List ((Int × Nat) × Int64)} (hA : okA D) (hv : isLv D t) (h : newP D D' t o) (hoo : 0 ≤ o ∧ o < D 0) (hL : ∀ p ∈ L, inP D' t p.1) (hk : k < (gV (shp D o)).length) (hsrc : src < (gV (tG D t)).length) (hs40 : src < 40) (n : Nat) : ∀ (i : Nat) (s : zSt), (i : Int) + n = tNr D t → mRel s (seqW D' t D' (L ++ mgC D t k src i)) H T → mLay s (seqW D' t D' (L ++ mgC D t k src i)) (seqW D' t D' (L ++ mgC D t k src i) 0) → mTk s D t (tNr D t).toNat → (∀ u, frm (fun x => x = 253) s u → mRel u (seqW D' t D' (L ++ mgC D t k src (tNr D t).toNat)) H T → mLay u (seqW D' t D' (L ++ mgC D t k src (tNr D t).toNat)) (seqW D' t D' (L ++ mgC D t k src (tNr D t).toNat) 0) → wp S 259 157 [(0, rf 252), (1, iv t), (2, iv o), (7, iv (tRc D t)), (8, iv x8), (9, iv (k + 1))] [] u Q) → wp S 259 198 [(0, rf 252), (1, iv t), (2, iv o), (7, iv (tRc D t)), (8, iv x8), (9, iv k), (10, iv src), (11, iv i)] [] s Q := by
  have hT := isLv_ok hA hv
  have h12 := hT.2.2.1
  have t0 := hv.1
  have t1 := hv.2.1
  have hLi : ∀ i : Nat, (i : Int) ≤ tNr D t → ∀ p ∈ L ++ mgC D t k src i, inP D' t p.1 := fun i hi p hp => by
    rcases List.mem_append.mp hp with hp | hp
    · exact hL p hp
    · exact mgC_in hA h hoo hk hi p hp
  have hnr : tNr D' t = tNr D t := h.2.2.2.1
  have hG' := newP_G hA h hoo
  induction n with
  | zero =>
    intro i s hi hm hly htk k1
    have e1 := (mE_cells h.1 h.2.1 (hLi i (by omega)) hm hly).2.1
    rw [hnr] at e1
    refine v_Model_migrate_198 ⟨⟨by omega, by omega⟩, ⟨by omega, by omega⟩, fun _ => ?_, fun hc => by omega⟩
    rw [show (tNr D t).toNat = i by omega] at k1
    exact k1 s frm_refl hm hly
  | succ n ihn =>
    intro i s hi hm hly htk k1
    have e1 := (mE_cells h.1 h.2.1 (hLi i (by omega)) hm hly).2.1
    rw [hnr] at e1
    have ev : zL s 272 (40 * (i : Int) + src) = valD D t i src := htk i (by omega) src hsrc
    refine v_Model_migrate_198 ⟨⟨by omega, by omega⟩, ⟨by omega, by omega⟩, fun hc => by omega, fun _ => ⟨⟨by omega, by omega⟩, fun hc => by omega, fun _ => ⟨⟨by omega, by omega⟩, ?_⟩⟩⟩
    rw [ev]
    refine MS_writes h.1 h.2.1 (hLi i (by omega)) hm hly ⟨⟨by show (0 : Int) ≤ i; omega, by show (i : Int) < tNr D' t; omega⟩, by show k < _; rw [hG']; exact hk⟩ fun u hfu hmu hlu => zkU_U ?_
    rw [List.append_assoc] at hmu hlu
    exact ihn (i + 1) u (by omega) (by rw [mgC_s]; exact hmu) (by rw [mgC_s]; exact hlu) (mTk_fr htk hfu (by omega)) fun w hfw => k1 w (frm_trans hfu hfw)
theorem M_mig_157 {t o : Int} (hA : okA D) (hv : isLv D t) (h : newP D D' t o) (hoo : 0 ≤ o ∧ o < D 0) (n : Nat) : ∀ (k : Nat) (s : zSt), k + n = (gV (shp D o)).length → mRel s (seqW D' t D' (mgL D t o k)) H T → mLay s (seqW D' t D' (mgL D t o k)) (seqW D' t D' (mgL D t o k) 0) → mTk s D t (tNr D t).toNat → (∀ u, frm (fun x => x = 253) s u → mRel u (seqW D' t D' (mgL D t o (gV (shp D o)).length)) H T → Q (rI (mgN D t o (gV (shp D o)).length)) u) → wp S 259 157 [(0, rf 252), (1, iv t), (2, iv o), (7, iv (tRc D t)), (8, iv (mgN D t o k)), (9, iv k)] [] s Q := by
  have hT := isLv_ok hA hv
  have hD0 := hA.1.1
  have h12 := hT.2.2.1
  have t0 := hv.1
  have t1 := hv.2.1
  have h40 := (okG_shp hA.1 hoo.1 hoo.2).2.1
  have h40r : (gV (tG D t)).length ≤ 40 := (okG_shp hA.1 hT.1.1 hT.1.2).2.1
  have hfacts : ∀ (k : Nat) (s : zSt), k ≤ (gV (shp D o)).length → mLay s (seqW D' t D' (mgL D t o k)) (seqW D' t D' (mgL D t o k) 0) → mLay s D (D 0) := fun k s hk hly => by
    have hE := seq_okA h.1 h.2.1 (mgL_in hA h hoo hk)
    intro r r0 r1
    have e0 : seqW D' t D' (mgL D t o k) 0 = D 0 := (hE.1 0 (by omega) (by omega)).trans (h.2.2.2.2.1 0 (by omega) (by omega))
    have hz := hly r r0 (by omega)
    have hsh : shp (seqW D' t D' (mgL D t o k)) r = shp D r := by
      have e1 : D' 0 = D 0 := h.2.2.2.2.1 0 (by omega) (by omega)
      rw [agR_shp h.1.1 (agT_R hE.1) r0 (by omega)]
      exact agR_shp hA.1 h.2.2.2.2.1 r0 r1
    unfold mRc at hz ⊢
    rw [hsh] at hz
    exact hz
  induction n with
  | zero =>
    intro k s hk hm hly htk k1
    have hlD := hfacts k s (by omega) hly
    have e0 := (hlD o hoo.1 hoo.2).2.2.1
    refine v_Model_migrate_157 ⟨⟨by omega, by omega⟩, ⟨by omega, by omega⟩, fun _ => ?_, fun hc => by omega⟩
    rw [show (gV (shp D o)).length = k by omega] at k1
    exact k1 s frm_refl hm
  | succ n ihn =>
    intro k s hk hm hly htk k1
    have hlD := hfacts k s (by omega) hly
    have e0 := (hlD o hoo.1 hoo.2).2.2.1
    have hsb := srcD_b (D := D) (r := tRc D t) (o := o) (k := k)
    have hmb := mgN_b (D := D) (t := t) (o := o) k
    have hGt : gV (shp D (tRc D t)) = gV (tG D t) := rfl
    rw [hGt] at hsb
    refine v_Model_migrate_157 ⟨⟨by omega, by omega⟩, ⟨by omega, by omega⟩, fun hc => by omega, fun _ => ?_⟩
    refine M_samePath hA hlD ⟨hT.1.1, hT.1.2⟩ hoo (by omega) ?_
    show zkI _ _ (rI (srcD D (tRc D t) o k))
    refine zkI_I ⟨by omega, by omega⟩ ⟨fun hne => ?_, fun heq => ?_⟩
    · have hs0 : srcD D (tRc D t) o k = ((srcD D (tRc D t) o k).toNat : Int) := by omega
      have hlt : (srcD D (tRc D t) o k).toNat < (gV (tG D t)).length := by omega
      have hz := M_mig_198 (S := S) (Q := Q) (H := H) (T := T) (x8 := mgN D t o k + 1) (k := k) (src := (srcD D (tRc D t) o k).toNat) (L := mgL D t o k) hA hv h hoo (mgL_in hA h hoo (by omega)) (by omega) hlt (by omega) (tNr D t).toNat 0 s (by omega) (by show mRel s (seqW D' t D' (mgL D t o k ++ [])) H T; rw [List.append_nil]; exact hm) (by show mLay s (seqW D' t D' (mgL D t o k ++ [])) (seqW D' t D' (mgL D t o k ++ []) 0); rw [List.append_nil]; exact hly) htk fun u hfu hmu hlu => by
        have e2 : mgL D t o (k + 1) = mgL D t o k ++ mgC D t k (srcD D (tRc D t) o k).toNat (tNr D t).toNat := by
          show mgL D t o k ++ (if srcD D (tRc D t) o k = -1 then [] else mgC D t k (srcD D (tRc D t) o k).toNat (tNr D t).toNat) = _
          rw [if_neg hne]
        rw [← e2] at hmu hlu
        have hy := ihn (k + 1) u (by omega) hmu hlu (mTk_fr htk hfu (by omega)) fun w hfw hmw => k1 w (frm_trans hfu hfw) hmw
        have e : mgN D t o (k + 1) = mgN D t o k + 1 := by show mgN D t o k + _ = _; rw [if_neg hne]
        rw [e] at hy
        exact hy
      rw [← hs0] at hz
      exact hz
    · have e2 : mgL D t o (k + 1) = mgL D t o k := by
        show mgL D t o k ++ (if srcD D (tRc D t) o k = -1 then [] else mgC D t k (srcD D (tRc D t) o k).toNat (tNr D t).toNat) = _
        rw [if_pos heq, List.append_nil]
      have hy := ihn (k + 1) s (by omega) (by rw [e2]; exact hm) (by rw [e2]; exact hly) htk k1
      have e : mgN D t o (k + 1) = mgN D t o k + 0 := by show mgN D t o k + _ = _; rw [if_pos heq]
      rw [e] at hy
      rw [heq]
      have e1 : zI s 253 (157 + 6 * t + 1) = tNr D t := by
        have hq := (mE_cells h.1 h.2.1 (mgL_in hA h hoo (by omega)) hm hly).2.1
        rw [h.2.2.2.1] at hq
        exact hq
      refine v_Model_migrate_198 ⟨⟨by omega, by omega⟩, ⟨by omega, by omega⟩, fun _ => hy, fun _ => ⟨⟨by omega, by omega⟩, fun _ => hy, fun hc => absurd rfl hc⟩⟩
theorem M_migrate {t o ly : Int} (hA : okA D) (h : mRel s D H T) (ht : rng t) (hro : rng o) (h2 : rng ly) (k1 : ¬ (isLv D t ∧ hasRc D o) → ∀ u, frm modC s u → zI u 252 3 = 1 → mRel u D H T → Q (rI 0) u) (k2 : isLv D t ∧ hasRc D o → ¬ argM ly → ∀ u, frm modC s u → zI u 252 3 = 2 → mRel u D H T → Q (rI 0) u) (k3 : isLv D t ∧ hasRc D o → argM ly → ¬ staM D t o ly → ∀ u, frm modC s u → zI u 252 3 = 3 → mRel u D H T → Q (rI 0) u) (k4 : isLv D t ∧ hasRc D o → argM ly → staM D t o ly → ∀ u, frm modC s u → zI u 252 3 = 0 → mRel u (mgD D t o ly (tOr D t)) (pushH H D) T → Q (rI (mgN D t o (gV (shp D o)).length)) u) : wp S 259 0 [(0, rf 252), (1, iv t), (2, iv o), (3, iv ly)] [] s Q := by
  have hD0 := hA.1.1
  have e0 : zI s 253 0 = D 0 := h.1 0 (by omega) (by omega)
  have h252 : ∀ (v : Int) (u : zSt), frm cLy s u → frm modC s (zwI u 252 3 v) := fun v u hf => frm_I (cLy_mod hf) (by unfold modC; omega)
  have hm252 : ∀ (v : Int) (u : zSt), frm cLy s u → mRel (zwI u 252 3 v) D H T := fun v u hf => mRel_252 (mRel_ly h hf) ⟨by omega, by omega⟩
  have hlive : (0 ≤ t ∧ t ≤ 2 ∧ zI s 253 (157 + 6 * t) ≠ -1) ↔ isLv D t := by
    constructor
    · intro hq
      exact ⟨hq.1, by omega, by rw [← show zI s 253 (157 + 6 * t) = tRc D t from h.1 _ (by omega) (by omega)]; exact hq.2.2⟩
    · intro hq
      have a0 := hq.1
      have a1 := hq.2.1
      exact ⟨a0, by omega, by rw [show zI s 253 (157 + 6 * t) = tRc D t from h.1 _ (by omega) (by omega)]; exact hq.2.2⟩
  have hrec : (0 ≤ o ∧ o ≤ zI s 253 0 - 1) ↔ hasRc D o := ⟨fun hq => ⟨hq.1, by omega⟩, fun hq => ⟨hq.1, by have := hq.2; omega⟩⟩
  have hbad1 : ¬ (isLv D t ∧ hasRc D o) → wp S 259 75 [(0, rf 252), (1, iv t), (2, iv o), (3, iv ly), (4, iv 0), (5, iv (bi (0 ≤ ly ∧ ly ≤ 8))), (6, iv (-1))] [] s Q := fun hn =>
    v_Model_migrate_75 ⟨⟨by omega, by omega⟩, fun hc => absurd rfl hc, fun _ => k1 hn _ (h252 1 s frm_refl) zI_eq (hm252 1 s frm_refl)⟩
  have hbad3 : isLv D t ∧ hasRc D o → ¬ (argM ly ∧ staM D t o ly) → wp S 259 75 [(0, rf 252), (1, iv t), (2, iv o), (3, iv ly), (4, iv 1), (5, iv (bi (0 ≤ ly ∧ ly ≤ 8))), (6, iv (-1))] [] s Q := fun hh hn =>
    v_Model_migrate_75 ⟨⟨by omega, by omega⟩, fun _ => ⟨bi_rng _, fun h5 => ⟨⟨by omega, by omega⟩, fun hc => absurd rfl hc, fun _ => by
      have ha : argM ly := Classical.byContradiction fun hq => h5 (bi_0.mpr hq)
      exact k3 hh ha (fun hs => hn ⟨ha, hs⟩) _ (h252 3 s frm_refl) zI_eq (hm252 3 s frm_refl)⟩, fun h5 => k2 hh (bi_0.mp h5) _ (h252 2 s frm_refl) zI_eq (hm252 2 s frm_refl)⟩, fun hc => by omega⟩
  refine v_Model_migrate_0 ⟨ht, fun hn => ⟨h2, hbad1 fun hh => hn (hlive.mpr hh.1)⟩, fun hy => ⟨hro, ⟨by omega, by omega⟩, fun hn => ⟨h2, hbad1 fun hh => hn (hrec.mpr hh.2)⟩, fun hy2 => ⟨h2, fun hn => hbad3 ⟨hlive.mp hy, hrec.mp hy2⟩ fun hq => hn hq.1, fun hy3 => ?_⟩⟩⟩
  have hv := hlive.mp hy
  have hh := hrec.mp hy2
  have hh0 := hh.1
  have hh1 := hh.2
  have hT := isLv_ok hA hv
  have h12 := hT.2.2.1
  have t0 := hv.1
  have t1 := hv.2.1
  have en : zI s 253 (1 + 26 * o + 1) = dN D o := h.1 _ (by omega) (by omega)
  rw [en]
  refine ⟨⟨by omega, by omega⟩, fun hd => hbad3 ⟨hv, hh⟩ fun hq => by have := hq.2.1; omega, fun hd => C_lays hA.1 h.1 fun x hfx hlx => zkU_U ⟨⟨by omega, by omega⟩, ?_⟩⟩
  have hmx := mRel_ly h hfx
  have e1 : zI x 253 (157 + 6 * t + 1) = tNr D t := hmx.1 _ (by omega) (by omega)
  rw [e1]
  have hbr := bFor_r hA hh h12 hy3
  refine C_bytesFor ⟨hh0, by omega⟩ (okG_shp hA.1 hh0 hh1) hy3 h12 (hlx o hh0 hh1) (zkI_I ⟨by omega, by omega⟩ ?_)
  have hyr : rng (bseT D o (tNr D t) ly) := by
    rcases roomD_in (D := D) (need := bFor (shp D o) (tNr D t) ly) 64 0 (by omega) (by omega) (by omega) with hq | hq <;> unfold bseT <;> exact ⟨by omega, by omega⟩
  refine M_room hA hmx.1 ⟨by omega, by omega⟩ (zkI_I hyr ?_)
  rw [show roomD D (bFor (shp D o) (tNr D t) ly) 64 0 = bseT D o (tNr D t) ly from rfl]
  have h5 : bi (0 ≤ ly ∧ ly ≤ 8) ≠ 0 := by rw [bi_T hy3]; decide
  refine v_Model_migrate_75 ⟨⟨by omega, by omega⟩, fun _ => ⟨bi_rng _, fun _ => ⟨hyr, fun hb => ?_, fun hb => k3 ⟨hv, hh⟩ hy3 (fun hs => hs.2 hb) _ (h252 3 x hfx) zI_eq (hm252 3 x hfx)⟩, fun hc => absurd hc h5⟩, fun hc => by omega⟩
  have hl0 : mLay (zwI x 252 3 0) D (D 0) := mLay_252 hlx
  have hm0 := hm252 0 x hfx
  refine C_msaves hm0.1 hm0.2.1 fun w hfw hw252 hpw => zkU_U ?_
  have hmw : mRel w D (pushH H D) T := ⟨fun j q0 q1 => (fI hfw (by omega)).trans (hm0.1 j q0 q1), hpw, (hw252 5 (by omega)).trans hm0.2.2.1, fun i hi => (fI hfw (by omega)).trans (hm0.2.2.2 i hi)⟩
  have hlw : mLay w D (D 0) := mLay_fr hl0 hfw fun a a0 a1 => by omega
  refine M_takes hA hv hmw hlw fun y hfy hty => zkU_U ?_
  have hmy : mRel y D (pushH H D) T := mRel_fr hmw hfy fun a a0 a1 => by omega
  have hly' : mLay y D (D 0) := mLay_fr hlw hfy fun a a0 a1 => by omega
  have f0 : zI y 253 (157 + 6 * t + 0) = tRc D t := by rw [Int.add_zero]; exact hmy.1 _ (by omega) (by omega)
  have f1 : zI y 253 (157 + 6 * t + 1) = tNr D t := hmy.1 _ (by omega) (by omega)
  have f3 : zI y 253 (157 + 6 * t + 3) = tOr D t := hmy.1 _ (by omega) (by omega)
  rw [f0, f1, f3]
  have hP := mgT_P (od := tOr D t) hA hv hh hd hy3 hT.2.2.2.2.1 hb
  refine ⟨⟨by omega, by omega⟩, ⟨by omega, by omega⟩, ⟨by omega, by omega⟩, M_anew hA hv hh hd hy3 hT.2.2.2.2.1 hb hmy hly' fun z hfz hmz hlz => zkU_U ?_⟩
  refine M_mig_157 (H := pushH H D) (T := T) hA hv hP hh (gV (shp D o)).length 0 z (by omega) hmz hlz (mTk_fr hty hfz (by omega)) fun q hfq hmq => ?_
  refine k4 ⟨hv, hh⟩ hy3 ⟨hd, hb⟩ q (frm_trans (h252 0 x hfx) (frm_trans (frm_mono hfw fun a ha => by unfold modC; omega) (frm_trans (frm_mono hfy fun a ha => by unfold modC; omega) (frm_trans (frm_mono hfz fun a ha => by unfold modC; omega) (frm_mono hfq fun a ha => by unfold modC; omega))))) ?_ hmq
  rw [fI hfq (by omega), fI hfz (by omega), fI hfy (by omega), hw252 3 (by omega), zI_eq]
end OPS29
