/-! ===== the class places a field of a record, and builds a shape ===== -/
section CFLD
variable {S : Option (Nat × (Nat → Int32))} {Q : Option Value ⊕ Nat → zSt → Prop}
theorem C_place {N : Int → ySh} {r f pack n t c nm : Int} {F : Nat → Int × Int × Int} {G : ySh} {s : zSt} (hr : 0 ≤ r ∧ r < 6) (hf : 0 ≤ f ∧ f < 8) (hfq : f = ((gQ G).length : Int)) (hfn : f < n) (hfl : cFld s (7 + 4 * r) pack n F) (hFf : F f.toNat = (nm, t, c)) (hG : cShp s (62 + 11 * r) G) (hgo : gOK G) (hp : zp8 pack) (hin : 100 ≤ t → 0 ≤ t - 100 ∧ t - 100 < r) (ht : (0 ≤ t ∧ t ≤ 7) ∨ (21 ≤ t ∧ t ≤ 36) ∨ (100 ≤ t ∧ t < 106))
    (hc : 1 ≤ c ∧ c ≤ 4) (hbc : 21 ≤ t → t ≤ 36 → c = 1) (hI : 100 ≤ t → cShp s (62 + 11 * (t - 100)) (N (t - 100)) ∧ gOK (N (t - 100)) ∧ 1 ≤ (gV (N (t - 100))).length) (hN : okN N t) (hNr : 100 ≤ t → ∀ x ∈ gV (N (t - 100)), rng (lT x) ∧ rng (lB x)) (hVl : (gV G).length + c.toNat * tyL N t ≤ 40)
    (k1 : ∀ w, frm (fun x => 62 + 11 * r ≤ x ∧ x ≤ 62 + 11 * r + 10) s w → cShp w (62 + 11 * r) (plc N pack nm t c G) → Q rU w) :
    wp S 43 0 [(0, rf (62 + 11 * r)), (1, rf (7 + 4 * r)), (2, iv f), (3, orf (inC t))] [] s Q := by
  have hao := isO_shape hr
  have hbo := isO_fields hr
  have hio : 0 ≤ inC t → isO (inC t) 4 := fun h => by
    have h100 : 100 ≤ t := by
      rcases Int.lt_or_le t 100 with hq | hq
      · rw [inC_n hq] at h; omega
      · exact hq
    rw [inC_r h100]
    exact isO_shape (by have := hin h100; omega)
  obtain ⟨hpk, -, hff⟩ := hfl
  obtain ⟨w1, w2, w3⟩ := hff f.toNat (by omega)
  rw [Int.toNat_of_nonneg hf.1, hFf] at w1 w2 w3
  dsimp only at w1 w2 w3
  obtain ⟨g5, g6, g7, g8, gq, gv⟩ := hG
  obtain ⟨t1, t2, t3, t4⟩ := ty_ok (N := N) (t := t) fun h => (hI h).2
  obtain ⟨o1, o2, o3, o4⟩ := hgo
  have htl : tyL N t ≤ 40 := by
    unfold tyL
    split
    · decide
    · exact (hN (by omega)).2.1
  have hz8 := zp8_b (zp8_min t1 hp)
  have hm8 := zp8_b (zp8_max o2 (zp8_min t1 hp))
  have hVl1 : (gV G).length ≤ 40 := by omega
  have hcb : 0 ≤ c * tyB N t ∧ c * tyB N t ≤ 4 * 320 := ⟨Int.mul_nonneg (by omega) t2.1, Int.mul_le_mul (by omega) (by omega) t2.1 (by omega)⟩
  have hcc : 0 ≤ c * tyC N t ∧ c * tyC N t ≤ 4 * 320 := ⟨Int.mul_nonneg (by omega) t3.1, Int.mul_le_mul (by omega) (by omega) t3.1 (by omega)⟩
  have hgi := gst_in (own := min (tyA N t) pack) (w := zwd t) (len := c * tyB N t) (zp8_min t1 hp) o1.1 o3 (zwd_b t) hcb.1
  have hgs := gst_step (own := min (tyA N t) pack) (w := zwd t) (len := c * tyB N t) (zp8_min t1 hp) o1.1 o3 (zwd_b t) ⟨hcb.1, by omega⟩
  have hob : 0 ≤ (gst (min (tyA N t) pack) (zwd t) (c * tyB N t) (gE G) (gL G)).1 ∧ (gst (min (tyA N t) pack) (zwd t) (c * tyB N t) (gE G) (gL G)).1 ≤ 100000 := by
    refine ⟨hgi.1, ?_⟩
    rcases Int.lt_or_le 0 (zwd t) with hw | hw
    · have := (hgi.2.2.1 hw).1; omega
    · have := (hgi.2.2.2 (by have := zwd_b t; omega)).1; omega
  have hbb : 0 ≤ (gst (min (tyA N t) pack) (zwd t) (c * tyB N t) (gE G) (gL G)).2.1 ∧ (gst (min (tyA N t) pack) (zwd t) (c * tyB N t) (gE G) (gL G)).2.1 ≤ 16 := by
    rcases Int.lt_or_le 0 (zwd t) with hw | hw
    · have := hgi.2.2.1 hw; omega
    · have := (hgi.2.2.2 (by have := zwd_b t; omega)).2; omega
  have ht106 : 0 ≤ t ∧ t < 106 := by omega
  have hend := fun (u : zSt) hsu hothers p1 p2 p3 p4 p5 p6 p7 p8 => C_place_end (Q := Q) (S := S) (s := s) (u := u) (nm := nm) (pack := pack) hr hf hfq hin ht106 hc hN hNr ⟨t2.1, by omega⟩ hVl hob hbb ⟨gq, gv⟩ w1 w3 (fun h => (hI h).1.2.2.2.2.2) hsu hothers p1 p2 p3 p4 p5 p6 p7 p8 k1
  refine v_Shape_place_0 hao hbo hio ⟨hf, fun hp0 => ?_, fun hn0 => ?_⟩
  · have h100 : 100 ≤ t := by
      rcases Int.lt_or_le t 100 with hq | hq
      · rw [inC_n hq] at hp0; omega
      · exact hq
    have hz := hin h100
    obtain ⟨⟨i5, i6, i7, i8, -, -⟩, j1, j2⟩ := hI h100
    rw [inC_r h100] at hend ⊢
    have e1 : ∀ v, zI (zwI s (62 + 11 * r + 3) f v) (62 + 11 * (t - 100)) 5 = gW (N (t - 100)) := fun v => by rw [zI_ne (by omega)]; exact i5
    have e2 : ∀ v, zI (zwI s (62 + 11 * r + 3) f v) (7 + 4 * r) 0 = pack := fun v => by rw [zI_ne (by omega)]; exact hpk
    have hA : tyA N t = gW (N (t - 100)) := by unfold tyA zel; rw [if_neg (by omega)]
    have hB : tyB N t = zup (gE (N (t - 100))) (gW (N (t - 100))) := by unfold tyB zel gS; rw [if_neg (by omega)]
    have hC : tyC N t = gC (N (t - 100)) := by unfold tyC zel; rw [if_neg (by omega)]
    have hw0 : zwd t = 0 := zwd_0 (by omega)
    rw [e1, e2, i5, i7, g5, w2, w3, ← hB, ← hA]
    refine ⟨by rw [hA]; exact zp8_zp2 j1.2.1, j1.1.1, by have := (hN h100).2.1; have := j1.1.2; omega, ⟨by omega, by omega⟩, ⟨by omega, by omega⟩, ⟨by omega, by omega⟩, fun hb => ?_, fun hb => by omega⟩
    refine C_placeElements (e := gE G) (l := gL G) (own := min (tyA N t) pack) (by_ := tyB N t) (w := zwd t) hao hf hw0 ⟨?_, o1.1, by omega⟩ ?_ ⟨hcb.1, by omega⟩ ⟨?_, zp8_min t1 hp⟩ fun u hfu q1 q2 q3 q7 q8 q6 q5 => zkU_U ?_
    · rw [zI_nj (by omega), zI_ne (by omega), zI_ne (by omega)]; exact g7
    · rw [zI_ne (by omega), zI_ne (by omega), zI_eq]
    · rw [zI_ne (by omega), zI_eq]
    have q6' : zI u (62 + 11 * r) 6 = gC G := by rw [q6, zI_nj (by omega), zI_ne (by omega), zI_ne (by omega)]; exact g6
    have qi : zI u (62 + 11 * (t - 100)) 6 = tyC N t := by rw [fI hfu (by omega), zI_ne (by omega), zI_ne (by omega), zI_ne (by omega), hC]; exact i6
    rw [q6', qi]
    refine ⟨⟨by omega, by omega⟩, ?_⟩
    have hrr := hend (zwI u (62 + 11 * r) 6 (gC G + c * tyC N t)) ?_ ?_ ?_ ?_ ?_ ?_ ?_ ?_ ?_ ?_
    · rw [orf_pos (by omega)] at hrr; exact hrr
    · exact frm_I (frm_trans (frm_I (frm_I (frm_I frm_refl ⟨by omega, by omega⟩) ⟨by omega, by omega⟩) ⟨by omega, by omega⟩) (frm_mono hfu fun x hx => ⟨hx.1, by omega⟩)) ⟨by omega, by omega⟩
    · intro x j x0 x1 xj
      rcases (by omega : x = 62 + 11 * r + 1 ∨ x = 62 + 11 * r + 2 ∨ x = 62 + 11 * r + 3 ∨ x = 62 + 11 * r + 4) with hx | hx | hx | hx <;> subst hx
      · rw [zI_ne (by omega), (q3 j xj).1, zI_ne (by omega), zI_ne (by omega), zI_ne (by omega)]
      · rw [zI_ne (by omega), (q3 j xj).2, zI_ne (by omega), zI_ne (by omega), zI_ne (by omega)]
      · rw [zI_ne (by omega), fI hfu (by omega), zI_ne (by omega), zI_ne (by omega), zI_nj xj]
      · rw [zI_ne (by omega), fI hfu (by omega), zI_ne (by omega), zI_nj xj, zI_ne (by omega)]
    · rw [zI_ne (by omega)]; exact q1
    · rw [zI_ne (by omega)]; exact q2
    · rw [zI_ne (by omega), fI hfu (by omega), zI_ne (by omega), zI_ne (by omega), zI_eq]
    · rw [zI_ne (by omega), fI hfu (by omega), zI_ne (by omega), zI_eq]
    · rw [zI_nj (by omega), q5, zI_eq]
    · rw [zI_eq, if_neg (by omega)]
    · rw [zI_nj (by omega)]; exact q7
    · rw [zI_nj (by omega)]; exact q8
  · have h100 : t < 100 := by
      rcases Int.lt_or_le t 100 with hq | hq
      · exact hq
      · rw [inC_r hq] at hn0; omega
    rw [inC_n h100] at hend ⊢
    have e2 : ∀ v, zI (zwI s (62 + 11 * r + 3) f v) (7 + 4 * r) 0 = pack := fun v => by rw [zI_ne (by omega)]; exact hpk
    have hA : tyA N t = zby t := by unfold tyA zel; rw [if_pos h100]
    have hB : tyB N t = zby t := by unfold tyB zel; rw [if_pos h100]
    have hC : tyC N t = zby t := by unfold tyC zel; rw [if_pos h100]
    have hzb := zp8_b (zby_8 t)
    rw [hB] at hcb
    rw [hA, hB] at hend hgi hgs
    rw [hA] at t1 hz8 hm8
    rw [hC] at hend hcc
    rw [e2, g5, w2, w3]
    refine ⟨⟨by omega, by omega⟩, fun hq => absurd hq (by omega), fun _ => ⟨⟨by omega, by omega⟩, ⟨by omega, by omega⟩, fun hb => ?_, fun hb => ?_⟩⟩
    · have hw0 : zwd t = 0 := zwd_0 (by omega)
      refine C_placeElements (e := gE G) (l := gL G) (own := min (zby t) pack) (by_ := zby t) (w := zwd t) hao hf hw0 ⟨?_, o1.1, by omega⟩ ?_ ⟨hcb.1, by omega⟩ ⟨?_, zp8_min t1 hp⟩ fun u hfu q1 q2 q3 q7 q8 q6 q5 => zkU_U ⟨fun hq => absurd hq (by omega), fun _ => ?_⟩
      · rw [zI_nj (by omega), zI_ne (by omega), zI_ne (by omega)]; exact g7
      · rw [zI_ne (by omega), zI_ne (by omega), zI_eq]
      · rw [zI_ne (by omega), zI_eq]
      have q6' : zI u (62 + 11 * r) 6 = gC G := by rw [q6, zI_nj (by omega), zI_ne (by omega), zI_ne (by omega)]; exact g6
      have qi : zI u (62 + 11 * r + 3) f = zby t := by rw [fI hfu (by omega), zI_ne (by omega), zI_ne (by omega), zI_eq]
      rw [q6', qi]
      refine ⟨⟨by omega, by omega⟩, ?_⟩
      refine hend (zwI u (62 + 11 * r) 6 (gC G + c * zby t)) ?_ ?_ ?_ ?_ ?_ ?_ ?_ ?_ ?_ ?_
      · exact frm_I (frm_trans (frm_I (frm_I (frm_I frm_refl ⟨by omega, by omega⟩) ⟨by omega, by omega⟩) ⟨by omega, by omega⟩) (frm_mono hfu fun x hx => ⟨hx.1, by omega⟩)) ⟨by omega, by omega⟩
      · intro x j x0 x1 xj
        rcases (by omega : x = 62 + 11 * r + 1 ∨ x = 62 + 11 * r + 2 ∨ x = 62 + 11 * r + 3 ∨ x = 62 + 11 * r + 4) with hx | hx | hx | hx <;> subst hx
        · rw [zI_ne (by omega), (q3 j xj).1, zI_ne (by omega), zI_ne (by omega), zI_ne (by omega)]
        · rw [zI_ne (by omega), (q3 j xj).2, zI_ne (by omega), zI_ne (by omega), zI_ne (by omega)]
        · rw [zI_ne (by omega), fI hfu (by omega), zI_ne (by omega), zI_ne (by omega), zI_nj xj]
        · rw [zI_ne (by omega), fI hfu (by omega), zI_ne (by omega), zI_nj xj, zI_ne (by omega)]
      · rw [zI_ne (by omega)]; exact q1
      · rw [zI_ne (by omega)]; exact q2
      · rw [zI_ne (by omega)]; exact qi
      · rw [zI_ne (by omega), fI hfu (by omega), zI_ne (by omega), zI_eq]
      · rw [zI_nj (by omega), q5, zI_eq]
      · rw [zI_eq, if_neg (by omega)]
      · rw [zI_nj (by omega)]; exact q7
      · rw [zI_nj (by omega)]; exact q8
    · have hw0 : zwd t = t - 20 := zwd_pos (by omega)
      have hc1 := hbc (by omega) (by omega)
      rw [← hw0]
      refine C_placeBits (e := gE G) (l := gL G) (own := min (zby t) pack) (w := zwd t) (len := c * zby t) (cov := gC G) hao hf ⟨by omega, by omega⟩ ⟨?_, o1.1, by omega⟩ ⟨?_, o3.1, o3.2.1⟩ ⟨?_, zp8_min t1 hp⟩ ⟨?_, o4.1, by omega⟩ fun u hfu q1 q2 q3 q7 q8 q6 q5 => zkU_U ?_
      · rw [zI_nj (by omega), zI_ne (by omega), zI_ne (by omega)]; exact g7
      · rw [zI_nj (by omega), zI_ne (by omega), zI_ne (by omega)]; exact g8
      · rw [zI_ne (by omega), zI_eq]
      · rw [zI_nj (by omega), zI_ne (by omega), zI_ne (by omega)]; exact g6
      refine hend u ?_ ?_ q1 q2 ?_ ?_ ?_ ?_ q7 q8
      · exact frm_trans (frm_I (frm_I (frm_I frm_refl ⟨by omega, by omega⟩) ⟨by omega, by omega⟩) ⟨by omega, by omega⟩) (frm_mono hfu fun x hx => ⟨hx.1, by omega⟩)
      · intro x j x0 x1 xj
        rcases (by omega : x = 62 + 11 * r + 1 ∨ x = 62 + 11 * r + 2 ∨ x = 62 + 11 * r + 3 ∨ x = 62 + 11 * r + 4) with hx | hx | hx | hx <;> subst hx
        · rw [(q3 j xj).1, zI_ne (by omega), zI_ne (by omega), zI_ne (by omega)]
        · rw [(q3 j xj).2, zI_ne (by omega), zI_ne (by omega), zI_ne (by omega)]
        · rw [fI hfu (by omega), zI_ne (by omega), zI_ne (by omega), zI_nj xj]
        · rw [fI hfu (by omega), zI_ne (by omega), zI_nj xj, zI_ne (by omega)]
      · rw [fI hfu (by omega), zI_ne (by omega), zI_ne (by omega), zI_eq]
      · rw [fI hfu (by omega), zI_ne (by omega), zI_eq]
      · rw [q5, zI_eq]
      · rw [q6, if_pos (by omega : 0 < zwd t)]
theorem C_shapeOfType {t : Int} {s : zSt} (ht : rng t ∧ -2147483000 ≤ t) (hn : zI s 3 0 ≤ 6) (k1 : ∀ o, o = .inl (some (orf (if 100 ≤ t ∧ t - 100 < zI s 3 0 then 62 + 11 * (t - 100) else -1))) → Q o s) : wp S 42 0 [(0, rf 2), (1, iv t)] [] s Q := by
  refine v_RL_shapeOfType_0 ⟨⟨by omega, by omega⟩, fun hc => k1 _ ?_, fun hc => ⟨fun hc2 => k1 _ ?_, fun hc2 => ⟨⟨by omega, by omega⟩, k1 _ ?_⟩⟩⟩
  · rw [if_neg (by omega)]; rfl
  · rw [if_neg (by omega)]; rfl
  · rw [if_pos ⟨by omega, hc2⟩, orf_pos (by omega)]
/-- the shapes of the records before n stand -/
def cSh (s : zSt) (D : Int → Int) (n : Int) : Prop := ∀ r, 0 ≤ r → r < n → cShp s (62 + 11 * r) (shp D r)
/-- the fields of the records before n stand, in a state -/
def cFl (s : zSt) (c : Int) (D : Int → Int) (n : Int) : Prop := ∀ r, 0 ≤ r → r < n → cFld s (c + 4 + 4 * r) (dP D r) (dN D r) (dFd D r)
theorem cSh_fr {P : Int → Prop} {s t : zSt} {D : Int → Int} {n : Int} (h : cSh s D n) (hf : frm P s t) (hn : ∀ x, 62 ≤ x → x < 62 + 11 * n → ¬ P x) : cSh t D n := fun r q0 q1 => cShp_fr (h r q0 q1) hf fun x x0 x1 => hn x (by omega) (by omega)
theorem cFl_fr {P : Int → Prop} {s t : zSt} {c : Int} {D : Int → Int} {n : Int} (h : cFl s c D n) (hf : frm P s t) (hn : ∀ x, c + 4 ≤ x → x < c + 4 + 4 * n → ¬ P x) : cFl t c D n := fun r q0 q1 => cFld_fr (h r q0 q1) hf fun x x0 x1 => hn x (by omega) (by omega)
/-- one more field of the record r, of the row D -/
theorem C_placeField {D : Int → Int} {r : Int} {f : Nat} {G : ySh} {s : zSt} (hD : okD D) (h0 : 0 ≤ r) (h1 : r < D 0) (hf : (f : Int) < dN D r) (hG : G = gN (shp D) (dP D r) (dFd D r) f) (hnr : zI s 3 0 = D 0) (hfl : cFld s (7 + 4 * r) (dP D r) (dN D r) (dFd D r)) (hs : cSh s D r) (hGs : cShp s (62 + 11 * r) G)
    (k1 : ∀ w, frm (fun x => 62 + 11 * r ≤ x ∧ x ≤ 62 + 11 * r + 10) s w → cShp w (62 + 11 * r) (gN (shp D) (dP D r) (dFd D r) (f + 1)) → Q rU w) : wp S 41 0 [(0, rf 2), (1, iv r), (2, iv f)] [] s Q := by
  have hF := okD_Fs hD h0 h1
  obtain ⟨hr, hp, hn8, hfs⟩ := hF
  obtain ⟨⟨hf1, hf4, hf5, hf6⟩, hf2, hf3⟩ := hfs f (by omega) hf
  have hsh := shp_eq (D := D) h0 fun f q0 q1 => (hfs f q0 q1).1.2.1
  have hin : 100 ≤ dTy D r f → 0 ≤ dTy D r f - 100 ∧ dTy D r f - 100 < r := fun h => ⟨(okT_in hf4 h).1, (okT_in hf4 h).2.1⟩
  have ht := okT_106 hf4 (by omega)
  have hty : zI s (9 + 4 * r) f = dTy D r f := by
    have hq := (hfl.2.2 f hf).2.1
    rw [show 7 + 4 * r + 2 = 9 + 4 * r by omega] at hq
    exact hq
  have hD0 := hD.1
  have hgo := gN_ok (N := shp D) (F := dFd D r) hp f fun k hk => by
    obtain ⟨⟨g1, g2, g3, g4⟩, -⟩ := hfs k (by omega) (by omega)
    refine ⟨fun ht => ?_, g3, g4⟩
    have hz := okT_in g2 ht
    have ho := shp_OK hD (r := dTy D r k - 100) hz.1 (by omega)
    exact ⟨ho.1, ho.2.1 hz.2.2⟩
  obtain ⟨W, hW⟩ := gN_mono (shp D) (dP D r) (dFd D r) (f + 1) (dN D r).toNat (by omega)
  rw [← hsh] at hW
  have hWl := congrArg List.length hW
  rw [List.length_append] at hWl
  have hO := shp_OK hD h0 h1
  have hgl := plc_len (shp D) (dP D r) (dNm D r f) (dTy D r f) (dCt D r f) (gN (shp D) (dP D r) (dFd D r) f)
  have hgl2 : (gV (gN (shp D) (dP D r) (dFd D r) f)).length + (dCt D r f).toNat * tyL (shp D) (dTy D r f) ≤ 40 := by
    have hq : (gV (gN (shp D) (dP D r) (dFd D r) (f + 1))).length ≤ 40 := by omega
    rw [← hgl]; exact hq
  refine v_RL_placeField_0 ⟨hr, ⟨by omega, by omega⟩, ?_⟩
  rw [hty]
  refine C_shapeOfType ⟨⟨by omega, by omega⟩, by omega⟩ (by omega) fun o ho => ⟨_, ho, ?_⟩
  have hic : (if 100 ≤ dTy D r f ∧ dTy D r f - 100 < zI s 3 0 then 62 + 11 * (dTy D r f - 100) else -1) = inC (dTy D r f) := by
    unfold inC
    by_cases hq : 100 ≤ dTy D r f
    · have := hin hq; rw [if_pos ⟨hq, by omega⟩, if_pos hq]
    · rw [if_neg (fun hz => hq hz.1), if_neg hq]
  rw [hic]
  subst hG
  refine ⟨fun hq => ?_, C_place (N := shp D) (F := dFd D r) (nm := dNm D r f) (c := dCt D r f) hr ⟨by omega, by omega⟩ (by rw [gQ_len]) hf hfl (by rw [Int.toNat_natCast]; rfl) hGs hgo.1 hp hin ?_ hf5 hf6 (fun h => ?_) (okN_shp hD h1 hin) (fun h x hx => ?_) hgl2 fun w hfw hcw => zkU_U (k1 w hfw hcw)⟩
  · have h100 : 100 ≤ dTy D r f := by
      rcases Int.lt_or_le (dTy D r f) 100 with hq2 | hq2
      · rw [inC_n hq2] at hq; omega
      · exact hq2
    rw [inC_r h100]
    exact isO_shape (by have := hin h100; omega)
  · rcases hf4 with hq | hq | hq <;> omega
  · have hz := okT_in hf4 h
    have ho := shp_OK hD (r := dTy D r f - 100) hz.1 (by omega)
    exact ⟨hs _ hz.1 hz.2.1, ho.1, ho.2.1 hz.2.2⟩
  · have hz := hin h
    have hl := shp_L hD (r := dTy D r f - 100) hz.1 (by omega) x hx
    have hzw := zwd_b (lT x)
    exact ⟨⟨by rcases hl.1 with hq | hq <;> omega, by rcases hl.1 with hq | hq <;> omega⟩, ⟨by have := hl.2.2.1.1; omega, by have := hl.2.2.1.2.1; omega⟩⟩
theorem C_buildShape_11 {D : Int → Int} {r : Int} (hD : okD D) (h0 : 0 ≤ r) (h1 : r < D 0) (n : Nat) : ∀ (f : Nat) (s : zSt), (f : Int) + n = dN D r → zI s 3 0 = D 0 → cFld s (7 + 4 * r) (dP D r) (dN D r) (dFd D r) → cSh s D r → cShp s (62 + 11 * r) (gN (shp D) (dP D r) (dFd D r) f) →
    (∀ w, frm (fun x => 62 + 11 * r ≤ x ∧ x ≤ 62 + 11 * r + 10) s w → cShp w (62 + 11 * r) (shp D r) → Q rU w) → wp S 39 11 [(0, rf 2), (1, iv r), (2, iv f)] [] s Q := by
  have hF := okD_Fs hD h0 h1
  obtain ⟨hr, hp, hn8, hfs⟩ := hF
  have hsh := shp_eq (D := D) h0 fun f q0 q1 => (hfs f q0 q1).1.2.1
  induction n with
  | zero =>
    intro f s hk hn hfl hs hg hQ
    have hn1 := hfl.2.1
    refine v_RL_buildShape_11 ⟨hr, ⟨by omega, by omega⟩, fun _ => hQ s frm_refl ?_, fun hc => by omega⟩
    rw [hsh, show (dN D r).toNat = f by omega]
    exact hg
  | succ n ihn =>
    intro f s hk hn hfl hs hg hQ
    have hn1 := hfl.2.1
    refine v_RL_buildShape_11 ⟨hr, ⟨by omega, by omega⟩, fun hc => by omega, fun _ => C_placeField hD h0 h1 (by omega) rfl hn hfl hs hg fun w hfw hcw => zkU_U ?_⟩
    exact ihn (f + 1) w (by omega) ((fI hfw (by omega)).trans hn) (cFld_fr hfl hfw fun x x0 x1 => by omega) (cSh_fr hs hfw fun x x0 x1 => by omega) hcw fun u hfu hcu => hQ u (frm_trans hfw hfu) hcu
theorem C_buildShape {D : Int → Int} {r : Int} {s : zSt} (hD : okD D) (h0 : 0 ≤ r) (h1 : r < D 0) (hn : zI s 3 0 = D 0) (hfl : cFld s (7 + 4 * r) (dP D r) (dN D r) (dFd D r)) (hs : cSh s D r)
    (hQ : ∀ w, frm (fun x => 62 + 11 * r ≤ x ∧ x ≤ 62 + 11 * r + 10) s w → cShp w (62 + 11 * r) (shp D r) → Q rU w) : wp S 39 0 [(0, rf 2), (1, iv r)] [] s Q := by
  have hD0 := hD.1
  have hF := (okD_Fs hD h0 h1).2.2.1
  refine v_RL_buildShape_0 ⟨⟨by omega, by omega⟩, ?_⟩
  have hfr : frm (fun x => 62 + 11 * r ≤ x ∧ x ≤ 62 + 11 * r + 10) s (zwI (zwI (zwI (zwI (zwI s (62 + 11 * r + 5) 0 0) (62 + 11 * r) 5 1) (62 + 11 * r) 6 0) (62 + 11 * r) 7 0) (62 + 11 * r) 8 0) :=
    frm_I (frm_I (frm_I (frm_I (frm_I frm_refl ⟨by omega, by omega⟩) ⟨by omega, by omega⟩) ⟨by omega, by omega⟩) ⟨by omega, by omega⟩) ⟨by omega, by omega⟩
  refine C_buildShape_11 hD h0 h1 (dN D r).toNat 0 _ (by omega) ((fI hfr (by omega)).trans hn) (cFld_fr hfl hfr fun x x0 x1 => by omega) (cSh_fr hs hfr fun x x0 x1 => by omega) ⟨?_, ?_, ?_, ?_, fun f hc => absurd hc (Nat.not_lt_zero f), ?_, fun i hc => absurd hc (Nat.not_lt_zero i)⟩ fun w hfw hcw => hQ w (frm_trans hfr hfw) hcw
  · rw [zI_nj (by omega), zI_nj (by omega), zI_nj (by omega), zI_eq]; rfl
  · rw [zI_nj (by omega), zI_nj (by omega), zI_eq]; rfl
  · rw [zI_nj (by omega), zI_eq]; rfl
  · rw [zI_eq]; rfl
  · rw [zI_ne (by omega), zI_ne (by omega), zI_ne (by omega), zI_ne (by omega), zI_eq]; rfl
end CFLD
