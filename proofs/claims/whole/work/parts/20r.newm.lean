/-! ===== newTable of the reference ===== -/
def argT (nr ly od : Int) : Prop := (1 ≤ nr ∧ nr ≤ 12) ∧ (0 ≤ ly ∧ ly ≤ 8) ∧ 0 ≤ od ∧ od ≤ 1
def bseT (D : Int → Int) (r nr ly : Int) : Int := roomD D (bFor (shp D r) nr ly) 64 0
def staT (D : Int → Int) (r nr ly : Int) : Prop := 0 < dN D r ∧ ffT D 3 0 < 3 ∧ bseT D r nr ly ≠ -1
theorem bFor_r {D : Int → Int} {r nr ly : Int} (hA : okA D) (hr : hasRc D r) (h1 : 1 ≤ nr ∧ nr ≤ 12) (h2 : 0 ≤ ly ∧ ly ≤ 8) : 0 ≤ bFor (shp D r) nr ly ∧ bFor (shp D r) nr ly ≤ 50032 := by
  have hG := okG_shp hA.1 hr.1 hr.2
  have hb := bFor_b hG h2 h1
  have he := bFor_eq hG h2 h1
  unfold zup at he
  omega
/-- what is found is in order -/
theorem staT_in {D : Int → Int} {r nr ly : Int} (hA : okA D) (hr : hasRc D r) (h1 : 1 ≤ nr ∧ nr ≤ 12) (h2 : 0 ≤ ly ∧ ly ≤ 8) (hs : staT D r nr ly) : (0 ≤ ffT D 3 0 ∧ ffT D 3 0 < 3) ∧ 1 ≤ bFor (shp D r) nr ly ∧ (0 ≤ bseT D r nr ly ∧ bseT D r nr ly % 16 = 0) ∧ bseT D r nr ly ≤ 1024 ∧ bseT D r nr ly + bFor (shp D r) nr ly ≤ endC D (bseT D r nr ly) 3 ∧ endC D (bseT D r nr ly) 3 ≤ 1024 := by
  have hp := bFor_pos hA hr hs.1 h1 h2
  have hf := ffT_b (D := D) 3 0
  rcases roomD_in (D := D) (need := bFor (shp D r) nr ly) 64 0 (by omega) (by omega) (by omega) with hq | hq
  · exact absurd hq hs.2.2
  · have he := endC_b (D := D) (b := bseT D r nr ly) (by unfold bseT; omega) 3
    unfold bseT at he ⊢
    exact ⟨⟨hf.1, hs.2.1⟩, hp, ⟨hq.1, hq.2.1⟩, by omega, hq.2.2.2, he.2⟩
theorem newT_ok {D : Int → Int} {r nr ly od : Int} (hA : okA D) (hr : hasRc D r) (ha : argT nr ly od) (hs : staT D r nr ly) : okA (newTD D (ffT D 3 0) r nr ly od (bseT D r nr ly)) := by
  obtain ⟨h1, h2, h3, h4, h5, h6⟩ := staT_in hA hr ha.1 ha.2.1 hs
  exact newTD_okA hA h1 hr hs.1 ha.1 ha.2.1 ha.2.2 h3 h4 h2 h5
section OPS19
variable {S : Option (Nat × (Nat → Int32))} {Q : Option Value ⊕ Nat → zSt → Prop} {s : zSt} {D : Int → Int} {H : List (Int → Int)} {T : List Int}
theorem M_newTable_112 {s0 : zSt} {r nr ly od x5 x6 t y : Int} (hA : okA D) (h : mRel s D H T) (hf0 : frm modC s0 s) (h5 : rng x5) (q5 : x5 ≠ 0 ↔ hasRc D r) (q6 : (x6 = 0 ∧ ¬ argT nr ly od) ∨ (x6 = 1 ∧ argT nr ly od)) (hy : hasRc D r → argT nr ly od → (y = -1 ∧ ¬ staT D r nr ly) ∨ (y = bseT D r nr ly ∧ staT D r nr ly ∧ t = ffT D 3 0 ∧ mLay s D (D 0))) (hyr : rng y)
    (k1 : ¬ hasRc D r → ∀ u, frm modC s0 u → zI u 252 3 = 1 → mRel u D H T → Q (rI 0) u) (k2 : hasRc D r → ¬ argT nr ly od → ∀ u, frm modC s0 u → zI u 252 3 = 2 → mRel u D H T → Q (rI 0) u) (k3 : hasRc D r → argT nr ly od → ¬ staT D r nr ly → ∀ u, frm modC s0 u → zI u 252 3 = 3 → mRel u D H T → Q (rI 0) u)
    (k4 : hasRc D r → argT nr ly od → staT D r nr ly → ∀ u, frm modC s0 u → zI u 252 3 = 0 → mRel u (newTD D (ffT D 3 0) r nr ly od (bseT D r nr ly)) (pushH H D) T → Q (rI (ffT D 3 0)) u) : wp S 228 112 [(0, rf 252), (1, iv r), (2, iv nr), (3, iv ly), (4, iv od), (5, iv x5), (6, iv x6), (7, iv t), (8, iv y)] [] s Q := by
  have h252 : ∀ v : Int, frm modC s0 (zwI s 252 3 v) := fun v => frm_I hf0 (by unfold modC; omega)
  have hm252 : ∀ v : Int, mRel (zwI s 252 3 v) D H T := fun v => mRel_252 h ⟨by omega, by omega⟩
  refine v_Model_newTable_112 ⟨h5, fun c5 => ⟨by rcases q6 with q | q <;> rw [q.1] <;> exact ⟨by decide, by decide⟩, fun c6 => ⟨hyr, fun cy => ?_, fun cy => ?_⟩, fun c6 => ?_⟩, fun c5 => k1 (fun hh => (q5.mpr hh) c5) _ (h252 1) zI_eq (hm252 1)⟩
  · have hr := q5.mp c5
    have ha : argT nr ly od := by rcases q6 with q | q; exact absurd q.1 c6; exact q.2
    rcases hy hr ha with ⟨g, -⟩ | ⟨gy, gs, gt, gl⟩
    · exact absurd g cy
    · obtain ⟨z1, z2, z3, z4, z5, z6⟩ := staT_in hA hr ha.1 ha.2.1 gs
      have hl2 : mLay (zwI s 252 3 0) D (D 0) := mLay_252 gl
      obtain ⟨a, b, c⟩ := hm252 0
      refine C_msaves a b fun w hfw hw252 hpw => zkU_U ?_
      have hmw : mRel w D (pushH H D) T := ⟨fun j q0 q1 => (fI hfw (by omega)).trans (a j q0 q1), hpw, (hw252 5 (by omega)).trans c.1, fun i hi => (fI hfw (by omega)).trans (c.2 i hi)⟩
      have hlw := mLay_fr hl2 hfw fun a a0 a1 => by omega
      subst gt
      subst gy
      refine M_stands hA hmw hlw z1 hr ha.1 ha.2.1 ha.2.2 z3.1 (by omega) (by omega) fun u hfu hmu => zkU_U ?_
      refine k4 hr ha gs u (frm_trans (h252 0) (frm_trans (frm_mono hfw fun x hx => by unfold modC; omega) (frm_mono hfu fun x hx => by unfold modC; omega))) ?_ hmu
      rw [fI hfu (by omega), hw252 3 (by omega), zI_eq]
  · have hr := q5.mp c5
    have ha : argT nr ly od := by rcases q6 with q | q; exact absurd q.1 c6; exact q.2
    rcases hy hr ha with ⟨-, g⟩ | ⟨gy, gs, gt, gl⟩
    · exact k3 hr ha g _ (h252 3) zI_eq (hm252 3)
    · exact absurd (gy.symm.trans cy) gs.2.2
  · have hr := q5.mp c5
    refine k2 hr ?_ _ (h252 2) zI_eq (hm252 2)
    rcases q6 with q | q
    · exact q.2
    · have := q.1; omega
theorem M_newTable_47 {s0 : zSt} {r nr ly od x5 x6 : Int} (hA : okA D) (h : mRel s D H T) (hf0 : frm modC s0 s) (h5 : rng x5) (q5 : x5 ≠ 0 ↔ hasRc D r) (q6 : (x6 = 0 ∧ ¬ argT nr ly od) ∨ (x6 = 1 ∧ argT nr ly od))
    (k1 : ¬ hasRc D r → ∀ u, frm modC s0 u → zI u 252 3 = 1 → mRel u D H T → Q (rI 0) u) (k2 : hasRc D r → ¬ argT nr ly od → ∀ u, frm modC s0 u → zI u 252 3 = 2 → mRel u D H T → Q (rI 0) u) (k3 : hasRc D r → argT nr ly od → ¬ staT D r nr ly → ∀ u, frm modC s0 u → zI u 252 3 = 3 → mRel u D H T → Q (rI 0) u)
    (k4 : hasRc D r → argT nr ly od → staT D r nr ly → ∀ u, frm modC s0 u → zI u 252 3 = 0 → mRel u (newTD D (ffT D 3 0) r nr ly od (bseT D r nr ly)) (pushH H D) T → Q (rI (ffT D 3 0)) u) (n : Nat) : ∀ t : Nat, t + n = 3 → ffT D 3 0 = ffT D n t → wp S 228 47 [(0, rf 252), (1, iv r), (2, iv nr), (3, iv ly), (4, iv od), (5, iv x5), (6, iv x6), (7, iv t)] [] s Q := by
  have hD0 := hA.1.1
  have h6 : rng x6 := by rcases q6 with q | q <;> rw [q.1] <;> exact ⟨by decide, by decide⟩
  have ha6 : x6 ≠ 0 → argT nr ly od := fun c6 => by rcases q6 with q | q; exact absurd q.1 c6; exact q.2
  have hno : ∀ t : Int, (hasRc D r → argT nr ly od → ¬ staT D r nr ly) → wp S 228 112 [(0, rf 252), (1, iv r), (2, iv nr), (3, iv ly), (4, iv od), (5, iv x5), (6, iv x6), (7, iv t), (8, iv (-1))] [] s Q := fun t hns =>
    M_newTable_112 hA h hf0 h5 q5 q6 (fun g1 g2 => .inl ⟨rfl, hns g1 g2⟩) ⟨by decide, by decide⟩ k1 k2 k3 k4
  have hyes : ∀ t : Int, t = ffT D 3 0 → t < 3 → hasRc D r → argT nr ly od → 0 < dN D r → wp S 193 0 [(0, rf 252)] [] s (fun o12 s12 => zkU (wp S 230 0 [(0, rf 252), (1, iv r), (2, iv nr), (3, iv ly)] [] s12 (fun o14 s14 => zkI (fun y14 => wp S 233 0 [(0, rf 252), (1, iv y14)] [] s14 (fun o16 s16 => zkI (fun y16 => wp S 228 112 [(0, rf 252), (1, iv r), (2, iv nr), (3, iv ly), (4, iv od), (5, iv x5), (6, iv x6), (7, iv t), (8, iv y16)] [] s16 Q) (fun e16 => False) o16)) (fun e14 => False) o14)) (fun e12 => False) o12) := fun t ht ht3 hr ha hd => by
    refine C_lays hA.1 h.1 fun u hfu hlu => zkU_U ?_
    have hb := bFor_r hA hr ha.1 ha.2.1
    have hmu := mRel_ly h hfu
    refine C_bytesFor ⟨hr.1, by have := hr.2; omega⟩ (okG_shp hA.1 hr.1 hr.2) ha.2.1 ha.1 (hlu r hr.1 hr.2) (zkI_I ⟨by omega, by omega⟩ ?_)
    have hyr : rng (bseT D r nr ly) := by
      rcases roomD_in (D := D) (need := bFor (shp D r) nr ly) 64 0 (by omega) (by omega) (by omega) with hq | hq <;> unfold bseT <;> exact ⟨by omega, by omega⟩
    refine M_room hA hmu.1 ⟨by omega, by omega⟩ (zkI_I hyr ?_)
    refine M_newTable_112 hA hmu (frm_trans hf0 (cLy_mod hfu)) h5 q5 q6 (fun g1 g2 => ?_) hyr k1 k2 k3 k4
    by_cases hq : bseT D r nr ly = -1
    · exact .inl ⟨hq, fun hs => hs.2.2 hq⟩
    · exact .inr ⟨rfl, ⟨hd, by omega, hq⟩, ht, hlu⟩
  have hfin : ∀ t : Nat, ffT D 3 0 = t → rng x5 ∧ ((x5 = 0 → wp S 228 112 [(0, rf 252), (1, iv r), (2, iv nr), (3, iv ly), (4, iv od), (5, iv x5), (6, iv x6), (7, iv t), (8, iv (-1))] [] s Q) ∧ (x5 ≠ 0 → rng x6 ∧ ((x6 = 0 → wp S 228 112 [(0, rf 252), (1, iv r), (2, iv nr), (3, iv ly), (4, iv od), (5, iv x5), (6, iv x6), (7, iv t), (8, iv (-1))] [] s Q) ∧ (x6 ≠ 0 → (0 ≤ ((1 + (26 * r)) + 1) ∧ ((1 + (26 * r)) + 1) < 1199) ∧ (((zI s 253 ((1 + (26 * r)) + 1)) ≤ 0 → wp S 228 112 [(0, rf 252), (1, iv r), (2, iv nr), (3, iv ly), (4, iv od), (5, iv x5), (6, iv x6), (7, iv t), (8, iv (-1))] [] s Q) ∧ (0 < (zI s 253 ((1 + (26 * r)) + 1)) → (3 ≤ (t : Int) → wp S 228 112 [(0, rf 252), (1, iv r), (2, iv nr), (3, iv ly), (4, iv od), (5, iv x5), (6, iv x6), (7, iv t), (8, iv (-1))] [] s Q) ∧ ((t : Int) < 3 → wp S 193 0 [(0, rf 252)] [] s (fun o12 s12 => zkU (wp S 230 0 [(0, rf 252), (1, iv r), (2, iv nr), (3, iv ly)] [] s12 (fun o14 s14 => zkI (fun y14 => wp S 233 0 [(0, rf 252), (1, iv y14)] [] s14 (fun o16 s16 => zkI (fun y16 => wp S 228 112 [(0, rf 252), (1, iv r), (2, iv nr), (3, iv ly), (4, iv od), (5, iv x5), (6, iv x6), (7, iv t), (8, iv y16)] [] s16 Q) (fun e16 => False) o16)) (fun e14 => False) o14)) (fun e12 => False) o12)))))))) := fun t ht => by
    refine ⟨h5, fun c5 => hno t fun hh _ => absurd c5 (q5.mpr hh), fun c5 => ⟨h6, fun c6 => hno t fun _ ha => ?_, fun c6 => ?_⟩⟩
    · rcases q6 with q | q
      · exact absurd ha q.2
      · have := q.1; omega
    · have hr := q5.mp c5
      have hr0 := hr.1
      have hr1 := hr.2
      have en : zI s 253 (1 + 26 * r + 1) = dN D r := h.1 _ (by omega) (by omega)
      rw [en]
      exact ⟨⟨by omega, by omega⟩, fun hd => hno t fun _ _ hs => by have := hs.1; omega, fun hd => ⟨fun h3 => hno t fun _ _ hs => by have := hs.2.1; omega, fun h3 => hyes t ht.symm h3 hr (ha6 c6) hd⟩⟩
  induction n with
  | zero =>
    intro t ht he
    have he' : ffT D 3 0 = (t : Int) := he
    exact v_Model_newTable_47 ⟨⟨by omega, by omega⟩, fun _ => hfin t he', fun hc => by omega⟩
  | succ n ihn =>
    intro t ht he
    have ev : zI s 253 (157 + 6 * (t : Int)) = tRc D t := h.1 _ (by omega) (by omega)
    refine v_Model_newTable_47 ⟨⟨by omega, by omega⟩, fun hc => by omega, fun _ => ⟨fun hl => ?_, fun hl => ?_⟩⟩
    · refine hfin t (he.trans (if_pos ?_))
      refine Classical.byContradiction fun hn => hl ⟨by omega, by omega, by rw [ev]; exact hn⟩
    · rw [ev] at hl
      have hz := ihn (t + 1) (by omega) (he.trans (by rw [Int.natCast_succ]; exact if_neg hl.2.2))
      rw [Int.natCast_succ] at hz
      exact hz
theorem M_newTable {r nr ly od : Int} (hA : okA D) (h : mRel s D H T) (hr : rng r) (h1 : rng nr) (h2 : rng ly) (h3 : rng od)
    (k1 : ¬ hasRc D r → ∀ u, frm modC s u → zI u 252 3 = 1 → mRel u D H T → Q (rI 0) u) (k2 : hasRc D r → ¬ argT nr ly od → ∀ u, frm modC s u → zI u 252 3 = 2 → mRel u D H T → Q (rI 0) u) (k3 : hasRc D r → argT nr ly od → ¬ staT D r nr ly → ∀ u, frm modC s u → zI u 252 3 = 3 → mRel u D H T → Q (rI 0) u)
    (k4 : hasRc D r → argT nr ly od → staT D r nr ly → ∀ u, frm modC s u → zI u 252 3 = 0 → mRel u (newTD D (ffT D 3 0) r nr ly od (bseT D r nr ly)) (pushH H D) T → Q (rI (ffT D 3 0)) u) : wp S 228 0 [(0, rf 252), (1, iv r), (2, iv nr), (3, iv ly), (4, iv od)] [] s Q := by
  have hD0 := hA.1.1
  have e0 : zI s 253 0 = D 0 := h.1 0 (by omega) (by omega)
  have hP : (0 ≤ r ∧ r ≤ zI s 253 0 - 1) ↔ hasRc D r := ⟨fun hq => ⟨hq.1, by omega⟩, fun hq => ⟨hq.1, by have := hq.2; omega⟩⟩
  have q5 : bi (0 ≤ r ∧ r ≤ zI s 253 0 - 1) ≠ 0 ↔ hasRc D r := ⟨fun hq => hP.mp (Classical.byContradiction fun hn => hq (bi_0.mpr hn)), fun hh hq => bi_0.mp hq (hP.mpr hh)⟩
  have hgo : ∀ x6 : Int, (x6 = 0 ∧ ¬ argT nr ly od) ∨ (x6 = 1 ∧ argT nr ly od) → wp S 228 47 [(0, rf 252), (1, iv r), (2, iv nr), (3, iv ly), (4, iv od), (5, iv (bi (0 ≤ r ∧ r ≤ zI s 253 0 - 1))), (6, iv x6), (7, iv 0)] [] s Q := fun x6 q6 =>
    M_newTable_47 hA h frm_refl (bi_rng _) q5 q6 k1 k2 k3 k4 3 0 rfl rfl
  exact v_Model_newTable_0 ⟨hr, ⟨by omega, by omega⟩, h1, fun c1 => hgo 0 (.inl ⟨rfl, fun ha => c1 ha.1⟩), fun c1 => ⟨h2, fun c2 => hgo 0 (.inl ⟨rfl, fun ha => c2 ha.2.1⟩), fun c2 => ⟨h3, fun c3 => hgo 0 (.inl ⟨rfl, fun ha => c3 ha.2.2⟩), fun c3 => hgo 1 (.inr ⟨rfl, c1, c2, c3⟩)⟩⟩⟩
end OPS19
