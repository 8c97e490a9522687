/-! ===== the class places a field ===== -/
def inC (t : Int) : Int := if 100 ≤ t then 62 + 11 * (t - 100) else -1
theorem inC_n {t : Int} (h : t < 100) : inC t = -1 := by unfold inC; rw [if_neg (by omega)]
theorem inC_r {t : Int} (h : 100 ≤ t) : inC t = 62 + 11 * (t - 100) := by unfold inC; rw [if_pos h]
theorem isO_shape {r : Int} (hr : 0 ≤ r ∧ r < 6) : isO (62 + 11 * r) 4 := by
  have hz := e_4 (a := 34) (j := r) lf_34 hr.1 (by omega)
  rw [show (34 : Int) + 28 + 11 * r = 62 + 11 * r by omega] at hz
  exact hz
theorem isO_fields {r : Int} (hr : 0 ≤ r ∧ r < 6) : isO (7 + 4 * r) 1 := by
  have hz := e_1 (a := 4) (j := r) lf_4 hr.1 (by omega)
  rw [show (4 : Int) + 3 + 4 * r = 7 + 4 * r by omega] at hz
  exact hz
/-- what a placed field's leaves are made of -/
def cEnv (s : zSt) (N : Int → ySh) (r f t c nm off bit : Int) : Prop := zI s (62 + 11 * r + 1) f = off ∧ zI s (62 + 11 * r + 2) f = bit ∧ zI s (62 + 11 * r + 3) f = tyB N t ∧ zI s (7 + 4 * r + 1) f = nm ∧ zI s (7 + 4 * r + 3) f = c ∧ (100 ≤ t → cLv s (62 + 11 * (t - 100) + 5) (gV (N (t - 100))))
theorem cEnv_fr {s u : zSt} {N : Int → ySh} {r f t c nm off bit : Int} (h : cEnv s N r f t c nm off bit) (hr : 0 ≤ r ∧ r < 6) (hin : 100 ≤ t → 0 ≤ t - 100 ∧ t - 100 < r) (hf : frm (fun x => 62 + 11 * r + 5 ≤ x ∧ x ≤ 62 + 11 * r + 10) s u) : cEnv u N r f t c nm off bit := by
  obtain ⟨h1, h2, h3, h4, h5, h6⟩ := h
  refine ⟨(fI hf (by omega)).trans h1, (fI hf (by omega)).trans h2, (fI hf (by omega)).trans h3, (fI hf (by omega)).trans h4, (fI hf (by omega)).trans h5, fun h100 => ?_⟩
  have hz := hin h100
  exact cLv_of (h6 h100) (fun x j q0 q1 => fI hf (by omega)) fun j => (hf.1 _ j (by omega)).2
section CPLC
variable {S : Option (Nat × (Nat → Int32))} {Q : Option Value ⊕ Nat → zSt → Prop}
theorem C_place_145 {N : Int → ySh} {r f t c nm off bit : Int} {V0 : List yLf} (hr : 0 ≤ r ∧ r < 6) (hf : 0 ≤ f ∧ f < 8) (ht : 0 ≤ t ∧ t < 106) (hin : 100 ≤ t → 0 ≤ t - 100 ∧ t - 100 < r) (hc : 1 ≤ c ∧ c ≤ 4) (hN : okN N t) (hNr : 100 ≤ t → ∀ x ∈ gV (N (t - 100)), rng (lT x) ∧ rng (lB x)) (hob : 0 ≤ off ∧ off ≤ 100000) (hbb : 0 ≤ bit ∧ bit ≤ 16) (hB : 0 ≤ tyB N t ∧ tyB N t ≤ 320) (hVl : V0.length + c.toNat * tyL N t ≤ 40) (n : Nat) :
    ∀ (e : Nat) (s : zSt), (e : Int) + n = c → cEnv s N r f t c nm off bit → cLv s (62 + 11 * r + 5) (V0 ++ lvsOf N nm t c f off bit e) →
    (∀ u, frm (fun x => 62 + 11 * r + 5 ≤ x ∧ x ≤ 62 + 11 * r + 10) s u → cLv u (62 + 11 * r + 5) (V0 ++ lvsOf N nm t c f off bit c.toNat) → Q rU u) →
    wp S 43 145 [(0, rf (62 + 11 * r)), (1, rf (7 + 4 * r)), (2, iv f), (3, orf (inC t)), (4, iv t), (5, iv c), (6, iv e)] [] s Q := by
  have hao := isO_shape hr
  have hbo := isO_fields hr
  have hio : 0 ≤ inC t → isO (inC t) 4 := fun h => by
    have h100 : 100 ≤ t := by
      rcases Int.lt_or_le t 100 with hq | hq
      · rw [inC_n hq] at h; omega
      · exact hq
    rw [inC_r h100]
    exact isO_shape (by have := hin h100; omega)
  induction n with
  | zero =>
    intro e s he hE hV hQ
    refine v_Shape_place_145 hao hbo hio ⟨⟨by omega, by omega⟩, ⟨by omega, by omega⟩, fun _ => hQ s frm_refl ?_, fun hcc => by omega⟩
    rw [show c.toNat = e by omega]
    exact hV
  | succ n ihn =>
    intro e s he hE hV hQ
    have hE2 := hE
    obtain ⟨h1, h2, h3, h4, h5, h6⟩ := hE
    have hmul : (e + 1) * tyL N t ≤ c.toNat * tyL N t := Nat.mul_le_mul_right _ (by omega)
    rw [Nat.succ_mul] at hmul
    have hem : 0 ≤ (e : Int) * tyB N t ∧ (e : Int) * tyB N t ≤ 4 * 320 := ⟨Int.mul_nonneg (by omega) hB.1, Int.mul_le_mul (by omega) hB.2 hB.1 (by omega)⟩
    have hvl := lvsOf_len N nm t c f off bit e
    refine v_Shape_place_145 hao hbo hio ⟨⟨by omega, by omega⟩, ⟨by omega, by omega⟩, fun hcc => by omega, fun _ => ⟨fun hp => ?_, fun hp => ?_⟩⟩
    · have h100 : 100 ≤ t := by
        rcases Int.lt_or_le t 100 with hq | hq
        · rw [inC_n hq] at hp; omega
        · exact hq
      have hz := hin h100
      have hi := hio hp
      have hvl2 := lvOf_len N nm t c f off bit e
      rw [inC_r h100] at hi ⊢
      refine v_Shape_addInnerLeaves_0 hao hbo (t_4_4 hi) ⟨hf, ?_⟩
      rw [h1, h3]
      have hlv : lvOf N nm t c f off bit e = (gV (N (t - 100))).map fun l => (lT l, off + e * tyB N t + lA l, lB l, f, (nm, zix c e) :: lP l) := by
        unfold lvOf tyB zel
        rw [if_neg (by omega), if_neg (by omega)]
      have hWl : tyL N t = (gV (N (t - 100))).length := by unfold tyL; rw [if_neg (by omega)]
      refine C_addInner_20 (V0 := V0 ++ lvsOf N nm t c f off bit e) hao hbo (t_4_4 hi) hf ⟨by omega, by omega⟩ ?_ ⟨by omega, by omega⟩ (by omega) (fun x hx => ⟨(hNr h100 x hx).1, ?_, (hNr h100 x hx).2⟩) (gV (N (t - 100))).length 0 s (Nat.zero_add _) (h6 h100) h4 h5 ?_ fun u hfu hlu => zkU_U ?_
      · rw [List.length_append, hvl]; omega
      · have := ((hN h100).2.2 x hx).2.1; omega
      · rw [List.take_zero, List.map_nil, List.append_nil]; exact hV
      · rw [← hlv, List.append_assoc, ← lvsOf_succ] at hlu
        have hrec := ihn (e + 1) u (by omega) (cEnv_fr hE2 hr hin hfu) hlu fun w hfw hlw => hQ w (frm_trans hfu hfw) hlw
        rw [inC_r h100, orf_pos (by omega)] at hrec
        exact hrec
    · have h100 : t < 100 := by
        rcases Int.lt_or_le t 100 with hq | hq
        · exact hq
        · rw [inC_r hq] at hp; omega
      refine ⟨hf, ?_⟩
      rw [h1, h2, h3, h4]
      have htl : tyL N t = 1 := by unfold tyL; rw [if_pos h100]
      have htb : tyB N t = zby t := by unfold tyB zel; rw [if_pos h100]
      have hzp : zpo nm e c 0 = pcode [(nm, zix c e)] := zpo_code (r := [])
      rw [hzp]
      refine C_Leaves_add (t_4_4 hao) hV ?_ ⟨by omega, by omega⟩ ⟨by omega, by omega⟩ ⟨by omega, by omega⟩ ⟨by omega, by omega⟩ fun u hfu hlu => zkU_U ?_
      · rw [List.length_append, hvl]; omega
      · have hfu2 : frm (fun x => 62 + 11 * r + 5 ≤ x ∧ x ≤ 62 + 11 * r + 10) s u := frm_mono hfu fun x hx => ⟨hx.1, by omega⟩
        have hlv : lvOf N nm t c f off bit e = [(t, off + e * tyB N t, bit, f, [(nm, zix c e)])] := by unfold lvOf; rw [if_pos h100, htb]
        rw [← hlv, List.append_assoc, ← lvsOf_succ] at hlu
        exact ihn (e + 1) u (by omega) (cEnv_fr hE2 hr hin hfu2) hlu fun w hfw hlw => hQ w (frm_trans hfu2 hfw) hlw
/-- behind the field's place: the leaves, and the shape as a whole -/
theorem C_place_end {N : Int → ySh} {r f pack t c nm : Int} {G : ySh} {s u : zSt} (hr : 0 ≤ r ∧ r < 6) (hf : 0 ≤ f ∧ f < 8) (hfq : f = ((gQ G).length : Int)) (hin : 100 ≤ t → 0 ≤ t - 100 ∧ t - 100 < r) (ht : 0 ≤ t ∧ t < 106) (hc : 1 ≤ c ∧ c ≤ 4) (hN : okN N t) (hNr : 100 ≤ t → ∀ x ∈ gV (N (t - 100)), rng (lT x) ∧ rng (lB x)) (hB : 0 ≤ tyB N t ∧ tyB N t ≤ 320) (hVl : (gV G).length + c.toNat * tyL N t ≤ 40)
    (hob : 0 ≤ (gst (min (tyA N t) pack) (zwd t) (c * tyB N t) (gE G) (gL G)).1 ∧ (gst (min (tyA N t) pack) (zwd t) (c * tyB N t) (gE G) (gL G)).1 ≤ 100000) (hbb : 0 ≤ (gst (min (tyA N t) pack) (zwd t) (c * tyB N t) (gE G) (gL G)).2.1 ∧ (gst (min (tyA N t) pack) (zwd t) (c * tyB N t) (gE G) (gL G)).2.1 ≤ 16)
    (hG : cQs s (62 + 11 * r) (gQ G) ∧ cLv s (62 + 11 * r + 5) (gV G)) (hnm : zI s (7 + 4 * r + 1) f = nm) (hct : zI s (7 + 4 * r + 3) f = c) (hI : 100 ≤ t → cLv s (62 + 11 * (t - 100) + 5) (gV (N (t - 100))))
    (hsu : frm (fun x => 62 + 11 * r ≤ x ∧ x ≤ 62 + 11 * r + 4) s u) (hothers : ∀ x j, 62 + 11 * r + 1 ≤ x → x ≤ 62 + 11 * r + 4 → j ≠ f → zI u x j = zI s x j)
    (p1 : zI u (62 + 11 * r + 1) f = (gst (min (tyA N t) pack) (zwd t) (c * tyB N t) (gE G) (gL G)).1) (p2 : zI u (62 + 11 * r + 2) f = (gst (min (tyA N t) pack) (zwd t) (c * tyB N t) (gE G) (gL G)).2.1) (p3 : zI u (62 + 11 * r + 3) f = tyB N t) (p4 : zI u (62 + 11 * r + 4) f = min (tyA N t) pack)
    (p5 : zI u (62 + 11 * r) 5 = max (gW G) (min (tyA N t) pack)) (p6 : zI u (62 + 11 * r) 6 = gC G + (if 0 < zwd t then (if zwd t ≤ gL G then 0 else 2) else c * tyC N t)) (p7 : zI u (62 + 11 * r) 7 = (gst (min (tyA N t) pack) (zwd t) (c * tyB N t) (gE G) (gL G)).2.2.1) (p8 : zI u (62 + 11 * r) 8 = (gst (min (tyA N t) pack) (zwd t) (c * tyB N t) (gE G) (gL G)).2.2.2)
    (k1 : ∀ w, frm (fun x => 62 + 11 * r ≤ x ∧ x ≤ 62 + 11 * r + 10) s w → cShp w (62 + 11 * r) (plc N pack nm t c G) → Q rU w) :
    wp S 43 145 [(0, rf (62 + 11 * r)), (1, rf (7 + 4 * r)), (2, iv f), (3, orf (inC t)), (4, iv t), (5, iv c), (6, iv 0)] [] u Q := by
  have hnbl : tyB N t = tyB N t := rfl
  refine C_place_145 (nm := nm) (V0 := gV G) hr hf ht hin hc hN hNr hob hbb hB hVl c.toNat 0 u (by omega) ⟨p1, p2, p3, (fI hsu (by omega)).trans hnm, (fI hsu (by omega)).trans hct, fun h100 => ?_⟩ ?_ fun w hfw hlw => k1 w (frm_trans (frm_mono hsu fun x hx => ⟨hx.1, by omega⟩) (frm_mono hfw fun x hx => ⟨by omega, hx.2⟩)) ?_
  · have hz := hin h100
    exact cLv_of (hI h100) (fun x j q0 q1 => fI hsu (by omega)) fun j => (hsu.1 _ j (by omega)).2
  · show cLv u _ (gV G ++ [])
    rw [List.append_nil]
    exact cLv_of hG.2 (fun x j q0 q1 => fI hsu (by omega)) fun j => (hsu.1 _ j (by omega)).2
  · refine ⟨(fI hfw (by omega)).trans p5, (fI hfw (by omega)).trans p6, (fI hfw (by omega)).trans p7, (fI hfw (by omega)).trans p8, fun i hi => ?_, ?_⟩
    · have hql := gQ_plc N pack nm t c G
      rw [hql] at hi
      show _ = ((gQ G ++ [_]).getD i dq).1 ∧ _ = ((gQ G ++ [_]).getD i dq).2.1 ∧ _ = ((gQ G ++ [_]).getD i dq).2.2.1 ∧ _ = ((gQ G ++ [_]).getD i dq).2.2.2
      by_cases hc1 : i < (gQ G).length
      · rw [getD_app1 hc1]
        obtain ⟨w1, w2, w3, w4⟩ := hG.1 i hc1
        exact ⟨(fI hfw (by omega)).trans ((hothers _ _ (by omega) (by omega) (by omega)).trans w1), (fI hfw (by omega)).trans ((hothers _ _ (by omega) (by omega) (by omega)).trans w2), (fI hfw (by omega)).trans ((hothers _ _ (by omega) (by omega) (by omega)).trans w3), (fI hfw (by omega)).trans ((hothers _ _ (by omega) (by omega) (by omega)).trans w4)⟩
      · have h2 : i = (gQ G).length := by omega
        subst h2
        rw [getD_app2 (Nat.le_refl _), Nat.sub_self, ← hfq]
        exact ⟨(fI hfw (by omega)).trans p1, (fI hfw (by omega)).trans p2, (fI hfw (by omega)).trans p3, (fI hfw (by omega)).trans p4⟩
    · have hvq : gV (plc N pack nm t c G) = gV G ++ lvsOf N nm t c f (gst (min (tyA N t) pack) (zwd t) (c * tyB N t) (gE G) (gL G)).1 (gst (min (tyA N t) pack) (zwd t) (c * tyB N t) (gE G) (gL G)).2.1 c.toNat := by
        rw [hfq]; rfl
      rw [hvq]
      exact hlw
end CPLC
