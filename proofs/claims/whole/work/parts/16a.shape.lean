/-! ===== the class's shapes ===== -/
def pcode : List (Int × Int) → Int64
  | [] => 0
  | p :: r => zshlL (pcode r) 8 ||| zi2l ((p.1 - 97 + 1) * 8 + p.2)
theorem zpo_code {nm c : Int} {el : Nat} {r : List (Int × Int)} : zpo nm el c (pcode r) = pcode ((nm, zix c el) :: r) := rfl
def cLv (s : zSt) (a : Int) (V : List yLf) : Prop := zI s a 0 = (V.length : Int) ∧ ∀ i : Nat, i < V.length → zI s (a + 1) i = lT (V.getD i dl) ∧ zI s (a + 2) i = lA (V.getD i dl) ∧ zI s (a + 3) i = lB (V.getD i dl) ∧ zI s (a + 4) i = lF (V.getD i dl) ∧ zL s (a + 5) i = pcode (lP (V.getD i dl))
def dq : Int × Int × Int × Int := (0, 0, 0, 0)
def cQs (s : zSt) (a : Int) (Z : List (Int × Int × Int × Int)) : Prop := ∀ f : Nat, f < Z.length → zI s (a + 1) f = (Z.getD f dq).1 ∧ zI s (a + 2) f = (Z.getD f dq).2.1 ∧ zI s (a + 3) f = (Z.getD f dq).2.2.1 ∧ zI s (a + 4) f = (Z.getD f dq).2.2.2
def cShp (s : zSt) (a : Int) (G : ySh) : Prop := zI s a 5 = gW G ∧ zI s a 6 = gC G ∧ zI s a 7 = gE G ∧ zI s a 8 = gL G ∧ cQs s a (gQ G) ∧ cLv s (a + 5) (gV G)
def cFld (s : zSt) (b : Int) (pack n : Int) (F : Nat → Int × Int × Int) : Prop := zI s b 0 = pack ∧ zI s b 1 = n ∧ ∀ f : Nat, (f : Int) < n → zI s (b + 1) f = (F f).1 ∧ zI s (b + 2) f = (F f).2.1 ∧ zI s (b + 3) f = (F f).2.2
theorem cLv_of {s t : zSt} {a : Int} {V : List yLf} (h : cLv s a V) (hI : ∀ x j, a ≤ x → x ≤ a + 4 → zI t x j = zI s x j) (hL : ∀ j, zL t (a + 5) j = zL s (a + 5) j) : cLv t a V :=
  ⟨(hI _ _ (by omega) (by omega)).trans h.1, fun i hi => ⟨(hI _ _ (by omega) (by omega)).trans (h.2 i hi).1, (hI _ _ (by omega) (by omega)).trans (h.2 i hi).2.1, (hI _ _ (by omega) (by omega)).trans (h.2 i hi).2.2.1, (hI _ _ (by omega) (by omega)).trans (h.2 i hi).2.2.2.1, (hL _).trans (h.2 i hi).2.2.2.2⟩⟩
theorem cShp_fr {P : Int → Prop} {s t : zSt} {a : Int} {G : ySh} (h : cShp s a G) (hf : frm P s t) (hn : ∀ x, a ≤ x → x ≤ a + 10 → ¬ P x) : cShp t a G := by
  obtain ⟨h1, h2, h3, h4, h5, h6⟩ := h
  refine ⟨(fI hf (hn _ (by omega) (by omega))).trans h1, (fI hf (hn _ (by omega) (by omega))).trans h2, (fI hf (hn _ (by omega) (by omega))).trans h3, (fI hf (hn _ (by omega) (by omega))).trans h4, fun f hl => ?_, cLv_of h6 (fun x j q0 q1 => fI hf (hn _ (by omega) (by omega))) fun j => (hf.1 _ j (hn _ (by omega) (by omega))).2⟩
  exact ⟨(fI hf (hn _ (by omega) (by omega))).trans (h5 f hl).1, (fI hf (hn _ (by omega) (by omega))).trans (h5 f hl).2.1, (fI hf (hn _ (by omega) (by omega))).trans (h5 f hl).2.2.1, (fI hf (hn _ (by omega) (by omega))).trans (h5 f hl).2.2.2⟩
theorem cFld_fr {P : Int → Prop} {s t : zSt} {b pack n : Int} {F : Nat → Int × Int × Int} (h : cFld s b pack n F) (hf : frm P s t) (hn : ∀ x, b ≤ x → x ≤ b + 3 → ¬ P x) : cFld t b pack n F :=
  ⟨(fI hf (hn _ (by omega) (by omega))).trans h.1, (fI hf (hn _ (by omega) (by omega))).trans h.2.1, fun f hl => ⟨(fI hf (hn _ (by omega) (by omega))).trans (h.2.2 f hl).1, (fI hf (hn _ (by omega) (by omega))).trans (h.2.2 f hl).2.1, (fI hf (hn _ (by omega) (by omega))).trans (h.2.2 f hl).2.2⟩⟩
section CSHP
variable {S : Option (Nat × (Nat → Int32))} {Q : Option Value ⊕ Nat → zSt → Prop}
theorem C_Leaves_add {s : zSt} {a ty off bit f : Int} {P : List (Int × Int)} {V : List yLf} (ha : isO a 2) (hV : cLv s a V) (hl : V.length < 40) (r1 : rng ty) (r2 : rng off) (r3 : rng bit) (r4 : rng f)
    (k1 : ∀ t, frm (fun x => a ≤ x ∧ x ≤ a + 5) s t → cLv t a (V ++ [(ty, off, bit, f, P)]) → Q rU t) :
    wp S 50 0 [(0, rf a), (1, iv ty), (2, iv off), (3, iv bit), (4, iv f), (5, .long (pcode P))] [] s Q := by
  have h0 := hV.1
  refine v_Leaves_add_0 ha ⟨fun _ => ⟨⟨by omega, by omega⟩, r1, r2, r3, r4, ⟨by omega, by omega⟩, ?_⟩, fun hc => by omega⟩
  rw [h0]
  refine k1 _ (frm_I (frm_L (frm_I (frm_I (frm_I (frm_I frm_refl ?_) ?_) ?_) ?_) ?_) ?_) ?_
  · exact ⟨by omega, by omega⟩
  · exact ⟨by omega, by omega⟩
  · exact ⟨by omega, by omega⟩
  · exact ⟨by omega, by omega⟩
  · exact ⟨by omega, by omega⟩
  · exact ⟨by omega, by omega⟩
  · refine ⟨by rw [zI_eq, List.length_append]; rfl, fun i hi => ?_⟩
    rw [List.length_append] at hi
    have h1 : ([(ty, off, bit, f, P)] : List yLf).length = 1 := rfl
    by_cases hc : i < V.length
    · rw [getD_app1 hc]
      obtain ⟨w1, w2, w3, w4, w5⟩ := hV.2 i hc
      refine ⟨?_, ?_, ?_, ?_, ?_⟩
      · rw [zI_ne (by omega), zI_wL, zI_ne (by omega), zI_ne (by omega), zI_ne (by omega), zI_nj (by omega)]; exact w1
      · rw [zI_ne (by omega), zI_wL, zI_ne (by omega), zI_ne (by omega), zI_nj (by omega), zI_ne (by omega)]; exact w2
      · rw [zI_ne (by omega), zI_wL, zI_ne (by omega), zI_nj (by omega), zI_ne (by omega), zI_ne (by omega)]; exact w3
      · rw [zI_ne (by omega), zI_wL, zI_nj (by omega), zI_ne (by omega), zI_ne (by omega), zI_ne (by omega)]; exact w4
      · rw [zL_wI, zL_nj (by omega), zL_wI, zL_wI, zL_wI, zL_wI]; exact w5
    · have h2 : i = V.length := by omega
      subst h2
      rw [getD_app2 (Nat.le_refl _), Nat.sub_self]
      refine ⟨?_, ?_, ?_, ?_, ?_⟩
      · rw [zI_ne (by omega), zI_wL, zI_ne (by omega), zI_ne (by omega), zI_ne (by omega), zI_eq]; rfl
      · rw [zI_ne (by omega), zI_wL, zI_ne (by omega), zI_ne (by omega), zI_eq]; rfl
      · rw [zI_ne (by omega), zI_wL, zI_ne (by omega), zI_eq]; rfl
      · rw [zI_ne (by omega), zI_wL, zI_eq]; rfl
      · rw [zL_wI, zL_eq]; rfl
/-- the nested leaves of an element -/
theorem C_addInner_20 {a b c st nm ct f : Int} {el : Nat} {W V0 : List yLf} (ha : isO a 4) (hb : isO b 1) (hc : isO c 2) (hf : 0 ≤ f ∧ f < 8) (hdis : (c + 5 < a + 5 ∨ a + 10 < c) ∧ (b + 3 < a + 5 ∨ a + 10 < b)) (hWl : V0.length + W.length ≤ 40) (hst : 0 ≤ st ∧ st ≤ 1000000) (hel : el ≤ 4) (hWr : ∀ x ∈ W, rng (lT x) ∧ (0 ≤ lA x ∧ lA x ≤ 1000) ∧ rng (lB x)) (n : Nat) : ∀ (i : Nat) (s : zSt), i + n = W.length → cLv s c W → zI s (b + 1) f = nm → zI s (b + 3) f = ct →
    cLv s (a + 5) (V0 ++ (W.take i).map fun l => (lT l, st + lA l, lB l, f, (nm, zix ct el) :: lP l)) →
    (∀ t, frm (fun x => a + 5 ≤ x ∧ x ≤ a + 10) s t → cLv t (a + 5) (V0 ++ W.map fun l => (lT l, st + lA l, lB l, f, (nm, zix ct el) :: lP l)) → Q rU t) →
    wp S 51 20 [(0, rf a), (1, rf b), (2, iv f), (3, iv el), (4, rf c), (5, iv st), (6, iv i)] [] s Q := by
  induction n with
  | zero =>
    intro i s hi hW hn hcn hV hQ
    have hW0 := hW.1
    refine v_Shape_addInnerLeaves_20 ha hb hc ⟨⟨by omega, by omega⟩, fun _ => hQ s frm_refl ?_, fun hcc => by omega⟩
    rw [show i = W.length by omega, List.take_length] at hV
    exact hV
  | succ n ihn =>
    intro i s hi hW hn hcn hV hQ
    have hW0 := hW.1
    have hil : i < W.length := by omega
    obtain ⟨w1, w2, w3, w4, w5⟩ := hW.2 i hil
    obtain ⟨g1, g2, g3⟩ := hWr _ (getD_mem (d := dl) hil)
    have hal : isO (a + 5) 2 := t_4_4 ha
    refine v_Shape_addInnerLeaves_20 ha hb hc ⟨⟨by omega, by omega⟩, fun hcc => by omega, fun _ => ⟨⟨by omega, by omega⟩, hf, ?_⟩⟩
    rw [w1, w2, w3, w5, hn, hcn, zpo_code]
    refine C_Leaves_add hal hV ?_ g1 ⟨by omega, by omega⟩ g3 ⟨by omega, by omega⟩ fun t hft hlt => zkU_U ?_
    · rw [List.length_append, List.length_map, List.length_take]; omega
    · have hft2 : frm (fun x => a + 5 ≤ x ∧ x ≤ a + 10) s t := frm_mono hft fun x hx => ⟨hx.1, by omega⟩
      rw [List.append_assoc] at hlt
      have htk : ((W.take i).map fun l => ((lT l, st + lA l, lB l, f, (nm, zix ct el) :: lP l) : yLf)) ++ [(lT (W.getD i dl), st + lA (W.getD i dl), lB (W.getD i dl), f, (nm, zix ct el) :: lP (W.getD i dl))] = (W.take (i + 1)).map fun l => (lT l, st + lA l, lB l, f, (nm, zix ct el) :: lP l) := by
        rw [List.take_add_one, List.map_append, List.getD_eq_getElem?_getD, List.getElem?_eq_getElem hil]
        rfl
      rw [htk] at hlt
      refine ihn (i + 1) t (by omega) (cLv_of hW (fun x j q0 q1 => fI hft2 (by omega)) fun j => (hft2.1 _ j (by omega)).2) ((fI hft2 (by omega)).trans hn) ((fI hft2 (by omega)).trans hcn) hlt fun u hfu hlu => hQ u (frm_trans hft2 hfu) hlu
theorem C_placeBits {s : zSt} {a f w e l own cov len : Int} (ha : isO a 4) (hf : 0 ≤ f ∧ f < 8) (hw : 0 < w ∧ w ≤ 16) (he : zI s a 7 = e ∧ 0 ≤ e ∧ e ≤ 100000) (hl : zI s a 8 = l ∧ 0 ≤ l ∧ l ≤ 16) (hown : zI s (a + 4) f = own ∧ zp8 own) (hcov : zI s a 6 = cov ∧ 0 ≤ cov ∧ cov ≤ 100000)
    (k1 : ∀ t, frm (fun x => a ≤ x ∧ x ≤ a + 2) s t → zI t (a + 1) f = (gst own w len e l).1 → zI t (a + 2) f = (gst own w len e l).2.1 → (∀ j, j ≠ f → zI t (a + 1) j = zI s (a + 1) j ∧ zI t (a + 2) j = zI s (a + 2) j) → zI t a 7 = (gst own w len e l).2.2.1 → zI t a 8 = (gst own w len e l).2.2.2 → zI t a 6 = cov + (if w ≤ l then 0 else 2) → zI t a 5 = zI s a 5 → Q rU t) :
    wp S 47 0 [(0, rf a), (1, iv f), (2, iv w)] [] s Q := by
  obtain ⟨he, he1, he2⟩ := he
  obtain ⟨hl, hl1, hl2⟩ := hl
  obtain ⟨hown, ho⟩ := hown
  obtain ⟨hcov, hc1, hc2⟩ := hcov
  have hb := zup_b (e := e) ho
  have hz := zp8_b ho
  refine v_Shape_placeBits_0 ha ?_
  rw [he, hl, hown, hcov]
  refine ⟨⟨by omega, by omega⟩, fun hc => ⟨hf, ⟨by omega, by omega⟩, ⟨by omega, by omega⟩, ⟨by omega, by omega⟩, ?_⟩, fun hc => ⟨hf, zp8_zp2 ho, he1, by omega, ⟨by omega, by omega⟩, ⟨by omega, by omega⟩, ⟨by omega, by omega⟩, ⟨by omega, by omega⟩, ⟨by omega, by omega⟩, ?_⟩⟩
  · have hg : gst own w len e l = (e - 2, 16 - l, e, l - w) := by unfold gst; rw [if_pos hw.1, if_pos hc]
    rw [hg, if_pos hc] at k1
    refine k1 _ (frm_I (frm_I (frm_I frm_refl ⟨by omega, by omega⟩) ⟨by omega, by omega⟩) ⟨by omega, by omega⟩) ?_ ?_ (fun j hj => ⟨?_, ?_⟩) ?_ ?_ ?_ ?_
    · rw [zI_ne (by omega), zI_ne (by omega), zI_eq]
    · rw [zI_ne (by omega), zI_eq]
    · rw [zI_ne (by omega), zI_ne (by omega), zI_nj hj]
    · rw [zI_ne (by omega), zI_nj hj, zI_ne (by omega)]
    · rw [zI_nj (by omega), zI_ne (by omega), zI_ne (by omega)]; exact he
    · rw [zI_eq]
    · rw [zI_nj (by omega), zI_ne (by omega), zI_ne (by omega)]; omega
    · rw [zI_nj (by omega), zI_ne (by omega), zI_ne (by omega)]
  · have hg : gst own w len e l = (zup e own, 0, zup e own + 2, 16 - w) := by unfold gst; rw [if_pos hw.1, if_neg (by omega)]
    rw [hg, if_neg (by omega)] at k1
    refine k1 _ (frm_I (frm_I (frm_I (frm_I (frm_I (frm_I frm_refl ⟨by omega, by omega⟩) ⟨by omega, by omega⟩) ⟨by omega, by omega⟩) ⟨by omega, by omega⟩) ⟨by omega, by omega⟩) ⟨by omega, by omega⟩) ?_ ?_ (fun j hj => ⟨?_, ?_⟩) ?_ ?_ ?_ ?_
    · rw [zI_ne (by omega), zI_ne (by omega), zI_eq]; dsimp only; omega
    · rw [zI_ne (by omega), zI_eq]; rfl
    · rw [zI_ne (by omega), zI_ne (by omega), zI_nj hj, zI_ne (by omega), zI_ne (by omega), zI_ne (by omega)]
    · rw [zI_ne (by omega), zI_nj hj, zI_ne (by omega), zI_ne (by omega), zI_ne (by omega), zI_ne (by omega)]
    · rw [zI_nj (by omega), zI_ne (by omega), zI_ne (by omega), zI_nj (by omega), zI_nj (by omega), zI_eq]
    · rw [zI_eq]
    · rw [zI_nj (by omega), zI_ne (by omega), zI_ne (by omega), zI_eq]
    · rw [zI_nj (by omega), zI_ne (by omega), zI_ne (by omega), zI_nj (by omega), zI_nj (by omega), zI_nj (by omega)]
theorem C_placeElements {s : zSt} {a f c e l own by_ w : Int} (ha : isO a 4) (hf : 0 ≤ f ∧ f < 8) (hw : w = 0) (he : zI s a 7 = e ∧ 0 ≤ e ∧ e ≤ 100000) (hby : zI s (a + 3) f = by_) (hcb : 0 ≤ c * by_ ∧ c * by_ ≤ 1280) (hown : zI s (a + 4) f = own ∧ zp8 own)
    (k1 : ∀ t, frm (fun x => a ≤ x ∧ x ≤ a + 2) s t → zI t (a + 1) f = (gst own w (c * by_) e l).1 → zI t (a + 2) f = (gst own w (c * by_) e l).2.1 → (∀ j, j ≠ f → zI t (a + 1) j = zI s (a + 1) j ∧ zI t (a + 2) j = zI s (a + 2) j) → zI t a 7 = (gst own w (c * by_) e l).2.2.1 → zI t a 8 = (gst own w (c * by_) e l).2.2.2 → zI t a 6 = zI s a 6 → zI t a 5 = zI s a 5 → Q rU t) :
    wp S 48 0 [(0, rf a), (1, iv f), (2, iv c)] [] s Q := by
  obtain ⟨he, he1, he2⟩ := he
  obtain ⟨hown, ho⟩ := hown
  have hb := zup_b (e := e) ho
  have hz := zp8_b ho
  refine v_Shape_placeElements_0 ha ?_
  rw [he, hown, hby]
  refine ⟨hf, zp8_zp2 ho, he1, by omega, ⟨by omega, by omega⟩, ⟨by omega, by omega⟩, ?_⟩
  have hg : gst own w (c * by_) e l = (zup e own, 0, zup e own + c * by_, 0) := by unfold gst; rw [if_neg (by omega)]
  rw [hg] at k1
  refine k1 _ (frm_I (frm_I (frm_I (frm_I frm_refl ⟨by omega, by omega⟩) ⟨by omega, by omega⟩) ⟨by omega, by omega⟩) ⟨by omega, by omega⟩) ?_ ?_ (fun j hj => ⟨?_, ?_⟩) ?_ ?_ ?_ ?_
  · rw [zI_ne (by omega), zI_ne (by omega), zI_ne (by omega), zI_eq]
  · rw [zI_ne (by omega), zI_ne (by omega), zI_eq]
  · rw [zI_ne (by omega), zI_ne (by omega), zI_ne (by omega), zI_nj hj]
  · rw [zI_ne (by omega), zI_ne (by omega), zI_nj hj, zI_ne (by omega)]
  · rw [zI_nj (by omega), zI_eq]
  · rw [zI_eq]
  · rw [zI_nj (by omega), zI_nj (by omega), zI_ne (by omega), zI_ne (by omega)]
  · rw [zI_nj (by omega), zI_nj (by omega), zI_ne (by omega), zI_ne (by omega)]
end CSHP
