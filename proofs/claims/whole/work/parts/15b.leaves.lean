/-! ===== the reference lays the leaves of an element ===== -/
/-- only the slot at_ of leaves, and the number of leaves of r, are other -/
def frSl (r at_ : Int) (s t : zSt) : Prop := frm (fun a => a = 256 ∨ (259 ≤ a ∧ a ≤ 264)) s t ∧ (∀ a j, 259 ≤ a → a ≤ 264 → a ≠ 263 → j ≠ at_ → zI t a j = zI s a j) ∧ (∀ j, (j < 32 * at_ ∨ 32 * at_ + 32 ≤ j) → zI t 263 j = zI s 263 j) ∧ ∀ j, j ≠ r → zI t 256 j = zI s 256 j
theorem frSl_refl {r at_ : Int} {s : zSt} : frSl r at_ s s := ⟨frm_refl, fun _ _ _ _ _ _ => rfl, fun _ _ => rfl, fun _ _ => rfl⟩
theorem frSl_trans {r at_ : Int} {s t u : zSt} (h : frSl r at_ s t) (k : frSl r at_ t u) : frSl r at_ s u :=
  ⟨frm_trans h.1 k.1, fun a j q1 q2 q3 q4 => (k.2.1 a j q1 q2 q3 q4).trans (h.2.1 a j q1 q2 q3 q4), fun j q => (k.2.2.1 j q).trans (h.2.2.1 j q), fun j q => (k.2.2.2 j q).trans (h.2.2.2 j q)⟩
theorem frSl_I {r at_ : Int} {s t : zSt} {a v : Int} (h : frSl r at_ s t) (h1 : 259 ≤ a) (h2 : a ≤ 264) (h3 : a ≠ 263) : frSl r at_ s (zwI t a at_ v) :=
  ⟨frm_I h.1 (.inr ⟨h1, h2⟩), fun b j q1 q2 q3 q4 => (zI_nj q4).trans (h.2.1 b j q1 q2 q3 q4), fun j q => (zI_ne (fun hc => h3 hc.symm)).trans (h.2.2.1 j q), fun j q => (zI_ne (by omega)).trans (h.2.2.2 j q)⟩
theorem frSl_P {r at_ : Int} {s t : zSt} {j0 v : Int} (h : frSl r at_ s t) (h1 : 32 * at_ ≤ j0) (h2 : j0 < 32 * at_ + 32) : frSl r at_ s (zwI t 263 j0 v) :=
  ⟨frm_I h.1 (.inr ⟨by omega, by omega⟩), fun b j q1 q2 q3 q4 => (zI_ne q3).trans (h.2.1 b j q1 q2 q3 q4), fun j q => (zI_nj (by omega)).trans (h.2.2.1 j q), fun j q => (zI_ne (by omega)).trans (h.2.2.2 j q)⟩
theorem frSl_N {r at_ : Int} {s t : zSt} {v : Int} (h : frSl r at_ s t) : frSl r at_ s (zwI t 256 r v) :=
  ⟨frm_I h.1 (.inl rfl), fun b j q1 q2 q3 q4 => (zI_ne (by omega)).trans (h.2.1 b j q1 q2 q3 q4), fun j q => (zI_ne (by omega)).trans (h.2.2.1 j q), fun j q => (zI_nj q).trans (h.2.2.2 j q)⟩
theorem mPth_of {s t : zSt} {a : Int} {p : List Int} (h : mPth s a p) (h1 : zI t 264 a = zI s 264 a) (h2 : ∀ j, 32 * a ≤ j → j < 32 * a + 32 → zI t 263 j = zI s 263 j) (hl : p.length ≤ 32) : mPth t a p :=
  ⟨h1.trans h.1, fun k hk => (h2 _ (by omega) (by omega)).trans (h.2 k hk)⟩
theorem mPth_nil {s : zSt} {a : Int} : mPth (zwI s 264 a 0) a [] := ⟨zI_eq, fun k hk => absurd hk (Nat.not_lt_zero k)⟩
theorem mPth_snoc {s : zSt} {a c n : Int} {p : List Int} (h : mPth s a p) (hn : n = (p.length : Int)) : mPth (zwI (zwI s 263 (32 * a + n) c) 264 a (n + 1)) a (p ++ [c]) := by
  refine ⟨by rw [zI_eq, List.length_append, hn]; rfl, fun k hk => ?_⟩
  rw [zI_ne (by omega)]
  rw [List.length_append] at hk
  by_cases hc : k < p.length
  · rw [zI_nj (by omega), getD_app1 hc]
    exact h.2 k hc
  · have hk2 : k = p.length := by have : ([c] : List Int).length = 1 := rfl; omega
    subst hk2
    rw [hn, zI_eq, getD_app2 (Nat.le_refl _), Nat.sub_self]
    rfl
theorem mLf_of {r at_ a : Int} {s t : zSt} {l : yLf} (h : mLf s a l) (hf : frSl r at_ s t) (hn : a ≠ at_) (hl : (pbs (lP l)).length ≤ 32) : mLf t a l := by
  refine ⟨(hf.2.1 _ _ (by omega) (by omega) (by omega) hn).trans h.1, (hf.2.1 _ _ (by omega) (by omega) (by omega) hn).trans h.2.1, (hf.2.1 _ _ (by omega) (by omega) (by omega) hn).trans h.2.2.1, (hf.2.1 _ _ (by omega) (by omega) (by omega) hn).trans h.2.2.2.1, mPth_of h.2.2.2.2 (hf.2.1 _ _ (by omega) (by omega) (by omega) hn) (fun j q0 q1 => hf.2.2.1 j (by omega)) hl⟩
theorem mLv_snoc {r : Int} {s t : zSt} {V : List yLf} {l : yLf} (h : mLv s r V) (hf : frSl r (40 * r + V.length) s t) (hn : zI t 256 r = (V.length : Int) + 1) (hl : mLf t (40 * r + V.length) l) (hp : ∀ x ∈ V, (pbs (lP x)).length ≤ 32) : mLv t r (V ++ [l]) := by
  refine ⟨by rw [hn, List.length_append]; rfl, fun i hi => ?_⟩
  rw [List.length_append] at hi
  by_cases hc : i < V.length
  · rw [getD_app1 hc]
    exact mLf_of (h.2 i hc) hf (by omega) (hp _ (getD_mem hc))
  · have h2 : i = V.length := by have : ([l] : List yLf).length = 1 := rfl; omega
    subst h2
    rw [getD_app2 (Nat.le_refl _), Nat.sub_self]
    exact hl
theorem mLv_keep {r r' m : Int} {s t : zSt} {V : List yLf} (h : mLv s r' V) (hf : frSl r (40 * r + m) s t) (hr : r' ≠ r) (hm : 0 ≤ m ∧ m < 40) (hV : V.length ≤ 40) (hp : ∀ x ∈ V, (pbs (lP x)).length ≤ 32) : mLv t r' V :=
  ⟨(hf.2.2.2 r' hr).trans h.1, fun i hi => mLf_of (h.2 i hi) hf (by omega) (hp _ (getD_mem hi))⟩
section MLVS
variable {S : Option (Nat × (Nat → Int32))} {Q : Option Value ⊕ Nat → zSt → Prop}
theorem C_al_177 {r f el ty many k st from_ m : Int} {pre p : List Int} (hr : 0 ≤ r ∧ r < 6) (hm : 0 ≤ m ∧ m < 40) (hfr : 0 ≤ from_ ∧ from_ < 240) (hne : from_ ≠ 40 * r + m) (hlen : pre.length + p.length ≤ 32) (n : Nat) : ∀ (i : Nat) (s : zSt), i + n = p.length → zI s 256 r = m → mPth s from_ p → mPth s (40 * r + m) (pre ++ p.take i) → rng (st + zI s 260 from_) →
    (∀ t, frSl r (40 * r + m) s t → mPth t (40 * r + m) (pre ++ p) → zI t 256 r = m → zI t 262 (40 * r + m) = zI s 262 (40 * r + m) → wp S 200 40 [(0, rf 252), (1, iv r), (2, iv f), (3, iv el), (4, iv ty), (5, iv many), (6, iv (k + 1))] [] (zwI (zwI (zwI (zwI t 259 (40 * r + m) (zI t 259 from_)) 260 (40 * r + m) (st + zI t 260 from_)) 261 (40 * r + m) (zI t 261 from_)) 256 r (m + 1)) Q) →
    wp S 200 177 [(0, rf 252), (1, iv r), (2, iv f), (3, iv el), (4, iv ty), (5, iv many), (6, iv k), (7, iv (40 * r + m)), (8, iv st), (9, iv from_), (10, iv i)] [] s Q := by
  induction n with
  | zero =>
    intro i s hi h256 hfp hap hst k1
    have hil : i = p.length := by omega
    have hfl := hfp.1
    refine v_Model_addsLeaves_177 ⟨hfr, ⟨by omega, by omega⟩, fun _ => ⟨⟨by omega, by omega⟩, hst, hr, ⟨by omega, by omega⟩, ?_⟩, fun hc => by omega⟩
    have hq := k1 s frSl_refl (by rw [hil, List.take_length] at hap; exact hap) h256 rfl
    rw [h256]
    exact hq
  | succ n ihn =>
    intro i s hi h256 hfp hap hst k1
    have hfl := hfp.1
    have hal := hap.1
    have htl : (pre ++ p.take i).length = pre.length + i := by rw [List.length_append, List.length_take]; omega
    rw [htl] at hal
    refine v_Model_addsLeaves_177 ⟨hfr, ⟨by omega, by omega⟩, fun hc => by omega, fun _ => ⟨⟨by omega, by omega⟩, hr, ?_⟩⟩
    rw [h256, hal]
    refine ⟨⟨by omega, by omega⟩, ⟨by omega, by omega⟩, ⟨by omega, by omega⟩, ?_⟩
    have hb : zI s 263 (32 * from_ + i) = p.getD i 0 := hfp.2 i (by omega)
    rw [hb]
    have hs := mPth_snoc (c := p.getD i 0) (n := ((pre.length + i : Nat) : Int)) hap (by rw [htl])
    have ht : (pre ++ p.take i) ++ [p.getD i 0] = pre ++ p.take (i + 1) := by
      rw [List.append_assoc, List.take_add_one, List.getD_eq_getElem?_getD, List.getElem?_eq_getElem (by omega : i < p.length)]
      rfl
    rw [ht] at hs
    have hfs : frSl r (40 * r + m) s (zwI (zwI s 263 (32 * (40 * r + m) + ((pre.length + i : Nat) : Int)) (p.getD i 0)) 264 (40 * r + m) (((pre.length + i : Nat) : Int) + 1)) :=
      frSl_I (frSl_P frSl_refl (by omega) (by omega)) (by omega) (by omega) (by omega)
    refine ihn (i + 1) _ (by omega) ?_ ?_ hs ?_ ?_
    · rw [zI_ne (by omega), zI_ne (by omega)]; exact h256
    · exact mPth_of hfp (hfs.2.1 _ _ (by omega) (by omega) (by omega) hne) (fun j q0 q1 => hfs.2.2.1 j (by omega)) (by omega)
    · rw [zI_ne (by omega), zI_ne (by omega)]; exact hst
    · intro t hf h1 h2 h3
      refine k1 t (frSl_trans hfs hf) h1 h2 (h3.trans ?_)
      rw [zI_ne (by omega), zI_ne (by omega)]
theorem zlv_ix0 {nm c : Int} {el : Nat} (h : c ≤ 1) : zlv (nm, zix c el) = [nm] := by
  unfold zlv zix
  rw [if_neg (by omega : ¬ 1 < c)]
  rfl
theorem zlv_ix1 {nm c : Int} {el : Nat} (h : 1 < c) : zlv (nm, zix c el) = [nm, 91, 48 + el, 93] := by
  unfold zlv zix
  rw [if_pos h]
  show (if (el : Int) + 1 = 0 then _ else _) = _
  rw [if_neg (by omega)]
  show [nm, 91, 47 + ((el : Int) + 1), 93] = _
  rw [show 47 + ((el : Int) + 1) = 48 + el by omega]
/-- one leaf of an element -/
theorem C_al_step {N : Int → ySh} {D : Int → Int} {r f ty many off bit : Int} {el kk : Nat} {s : zSt} {V : List yLf} (hr : 0 ≤ r ∧ r < 6) (hf : 0 ≤ f ∧ f < 8) (hty : 0 ≤ ty ∧ ty < 106) (hin : 100 ≤ ty → ty - 100 < r) (hmD : mD s D) (hct : dCt D r f ≤ 4) (hel : el ≤ 4)
    (hoff : zI s 266 f = off) (hbit : zI s 267 f = bit) (hob : 0 ≤ off ∧ off ≤ 100000) (hSz : 100 ≤ ty → zI s 257 (ty - 100) = gS (N (ty - 100)) ∧ (0 ≤ gS (N (ty - 100)) ∧ gS (N (ty - 100)) ≤ 320)) (hmany : many = (tyL N ty : Int)) (hkk : kk < tyL N ty)
    (hLv : 100 ≤ ty → mLv s (ty - 100) (gV (N (ty - 100))) ∧ (gV (N (ty - 100))).length ≤ 40 ∧ ∀ x ∈ gV (N (ty - 100)), (pbs (lP x)).length ≤ 25 ∧ (0 ≤ lA x ∧ lA x ≤ 320) ∧ lP x ≠ []) (hV : mLv s r V) (hVl : V.length < 40) (hVp : ∀ x ∈ V, (pbs (lP x)).length ≤ 32)
    (k1 : ∀ t, frSl r (40 * r + V.length) s t → mLv t r (V ++ [(lvOf N (dNm D r f) ty (dCt D r f) f off bit el).getD kk dl]) → wp S 200 40 [(0, rf 252), (1, iv r), (2, iv f), (3, iv el), (4, iv ty), (5, iv many), (6, iv ((kk : Int) + 1))] [] t Q) :
    wp S 200 40 [(0, rf 252), (1, iv r), (2, iv f), (3, iv el), (4, iv ty), (5, iv many), (6, iv kk)] [] s Q := by
  have h256 := hV.1
  have hz := zp8_b (zby_8 ty)
  have htL : tyL N ty ≤ 40 := by
    unfold tyL
    split
    · decide
    · exact (hLv (by omega)).2.1
  obtain ⟨es, hes⟩ : ∃ es, es = zel ty (zI s 257 (ty - 100)) := ⟨_, rfl⟩
  have hes2 : 0 ≤ es ∧ es ≤ 320 := by
    rw [hes]
    unfold zel
    split
    · omega
    · rw [(hSz (by omega)).1]; exact (hSz (by omega)).2
  have hmul : 0 ≤ (el : Int) * es ∧ (el : Int) * es ≤ 4 * 320 := ⟨Int.mul_nonneg (by omega) hes2.1, Int.mul_le_mul (by omega) hes2.2 hes2.1 (by omega)⟩
  have hnm : zI s 253 (1 + 26 * r + 2 + 3 * f) = dNm D r f := hmD _ (by omega) (by omega)
  have hcn : zI s 253 (1 + 26 * r + 2 + 3 * f + 2) = dCt D r f := hmD _ (by omega) (by omega)
  refine v_Model_addsLeaves_40 ⟨⟨by omega, by omega⟩, ⟨by omega, by omega⟩, fun hc => by omega, fun _ => ⟨hr, hf, ⟨by omega, by omega⟩, hty.2, ?_⟩⟩
  rw [h256, hnm, hcn, hoff, hbit, ← hes]
  have hQ0 : mPth (zwI s 264 (40 * r + V.length) 0) (40 * r + V.length) [] := mPth_nil
  have hQ1 := mPth_snoc (c := dNm D r f) (n := 0) hQ0 rfl
  have hF1 : frSl r (40 * r + V.length) s (zwI (zwI (zwI s 264 (40 * r + (V.length : Int)) 0) 263 (32 * (40 * r + (V.length : Int)) + 0) (dNm D r f)) 264 (40 * r + (V.length : Int)) (0 + 1)) :=
    frSl_I (frSl_P (frSl_I frSl_refl (by omega) (by omega) (by omega)) (by omega) (by omega)) (by omega) (by omega) (by omega)
  have hQ2 := mPth_snoc (c := 91) (n := 0 + 1) hQ1 rfl
  have hF2 := frSl_I (a := 264) (v := 0 + 1 + 1) (frSl_P (j0 := 32 * (40 * r + (V.length : Int)) + (0 + 1)) (v := 91) hF1 (by omega) (by omega)) (by omega) (by omega) (by omega)
  have hQ3 := mPth_snoc (c := 48 + el) (n := 0 + 1 + 1) hQ2 rfl
  have hF3 := frSl_I (a := 264) (v := 0 + 1 + 1 + 1) (frSl_P (j0 := 32 * (40 * r + (V.length : Int)) + (0 + 1 + 1)) (v := 48 + el) hF2 (by omega) (by omega)) (by omega) (by omega) (by omega)
  have hQ4 := mPth_snoc (c := 93) (n := 0 + 1 + 1 + 1) hQ3 rfl
  have hF4 := frSl_I (a := 264) (v := 0 + 1 + 1 + 1 + 1) (frSl_P (j0 := 32 * (40 * r + (V.length : Int)) + (0 + 1 + 1 + 1)) (v := 93) hF3 (by omega) (by omega)) (by omega) (by omega) (by omega)
  -- a leaf of a plain type
  have hplain : ∀ (u : zSt) (pp : List Int), ty < 100 → frSl r (40 * r + V.length) s u → mPth u (40 * r + V.length) pp → pp = zlv (dNm D r f, zix (dCt D r f) el) → 
      wp S 200 40 [(0, rf 252), (1, iv r), (2, iv f), (3, iv el), (4, iv ty), (5, iv many), (6, iv ((kk : Int) + 1))] [] (zwI (zwI (zwI (zwI (zwI u 262 (40 * r + (V.length : Int)) f) 259 (40 * r + (V.length : Int)) ty) 260 (40 * r + (V.length : Int)) (off + el * es)) 261 (40 * r + (V.length : Int)) bit) 256 r ((V.length : Int) + 1)) Q := by
    intro u pp h100 hFu hQu hpp
    have hk0 : kk = 0 := by unfold tyL at hkk; rw [if_pos h100] at hkk; omega
    have hFF := frSl_N (v := (V.length : Int) + 1) (frSl_I (a := 261) (v := bit) (frSl_I (a := 260) (v := off + el * es) (frSl_I (a := 259) (v := ty) (frSl_I (a := 262) (v := f) hFu (by omega) (by omega) (by omega)) (by omega) (by omega) (by omega)) (by omega) (by omega) (by omega)) (by omega) (by omega) (by omega))
    refine k1 _ hFF (mLv_snoc hV hFF zI_eq ?_ hVp)
    have hw : (lvOf N (dNm D r f) ty (dCt D r f) f off bit el).getD kk dl = (ty, off + el * zby ty, bit, f, [(dNm D r f, zix (dCt D r f) el)]) := by
      unfold lvOf; rw [if_pos h100, hk0]; rfl
    have hes3 : es = zby ty := by rw [hes]; unfold zel; rw [if_pos h100]
    rw [hw, hes3]
    refine ⟨?_, ?_, ?_, ?_, ?_⟩
    · rw [zI_ne (by omega), zI_ne (by omega), zI_ne (by omega), zI_eq]; rfl
    · rw [zI_ne (by omega), zI_ne (by omega), zI_eq]; rfl
    · rw [zI_ne (by omega), zI_eq]; rfl
    · rw [zI_ne (by omega), zI_ne (by omega), zI_ne (by omega), zI_ne (by omega), zI_eq]; rfl
    · have hpl : (pbs (lP ((ty, off + el * zby ty, bit, f, [(dNm D r f, zix (dCt D r f) el)]) : yLf))) = pp := by
        rw [hpp]; show zlv _ ++ [] = _; rw [List.append_nil]
      rw [hpl]
      refine mPth_of hQu ?_ (fun j q0 q1 => ?_) ?_
      · rw [zI_ne (by omega), zI_ne (by omega), zI_ne (by omega), zI_ne (by omega), zI_ne (by omega)]
      · rw [zI_ne (by omega), zI_ne (by omega), zI_ne (by omega), zI_ne (by omega), zI_ne (by omega)]
      · rw [hpp]; have := (zlv_len (dNm D r f, zix (dCt D r f) el)).2; omega
  -- a leaf of a record
  have hnest : ∀ (u : zSt) (pp : List Int) (n0 : Int), 100 ≤ ty → zI u 256 r = (V.length : Int) → frSl r (40 * r + V.length) s u → mPth u (40 * r + V.length) pp → pp = zlv (dNm D r f, zix (dCt D r f) el) → n0 = (pp.length : Int) →
      wp S 200 177 [(0, rf 252), (1, iv r), (2, iv f), (3, iv el), (4, iv ty), (5, iv many), (6, iv kk), (7, iv (40 * r + (V.length : Int))), (8, iv (off + el * es)), (9, iv (40 * (ty - 100) + kk)), (10, iv 0)] [] (zwI (zwI (zwI u 262 (40 * r + (V.length : Int)) f) 263 (32 * (40 * r + (V.length : Int)) + n0) 46) 264 (40 * r + (V.length : Int)) (n0 + 1)) Q := by
    intro u pp n0 h100 h256u hFu hQu hpp hn0
    obtain ⟨hL1, hL2, hL3⟩ := hLv h100
    have hpl := (zlv_len (dNm D r f, zix (dCt D r f) el)).2
    rw [← hpp] at hpl
    have hkl : kk < (gV (N (ty - 100))).length := by unfold tyL at hkk; rw [if_neg (by omega)] at hkk; exact hkk
    obtain ⟨l0, hl0⟩ : ∃ l0, l0 = (gV (N (ty - 100))).getD kk dl := ⟨_, rfl⟩
    have hl0m : l0 ∈ gV (N (ty - 100)) := by rw [hl0]; exact getD_mem hkl
    obtain ⟨hp1, hp2, hp3⟩ := hL3 l0 hl0m
    have hslot := hL1.2 kk hkl
    rw [← hl0] at hslot
    have hti := hin h100
    have hFA : frSl r (40 * r + V.length) s (zwI (zwI (zwI u 262 (40 * r + (V.length : Int)) f) 263 (32 * (40 * r + (V.length : Int)) + n0) 46) 264 (40 * r + (V.length : Int)) (n0 + 1)) :=
      frSl_I (frSl_P (frSl_I hFu (by omega) (by omega) (by omega)) (by omega) (by omega)) (by omega) (by omega) (by omega)
    have hQA : mPth (zwI (zwI (zwI u 262 (40 * r + (V.length : Int)) f) 263 (32 * (40 * r + (V.length : Int)) + n0) 46) 264 (40 * r + (V.length : Int)) (n0 + 1)) (40 * r + V.length) (pp ++ [46]) := by
      refine mPth_snoc (mPth_of hQu ?_ (fun j q0 q1 => ?_) (by omega)) hn0
      · rw [zI_ne (by omega)]
      · rw [zI_ne (by omega)]
    have hslot2 := mLf_of hslot hFA (by omega) (by omega)
    have hppl : (pp ++ [46]).length = pp.length + 1 := by rw [List.length_append]; rfl
    have h256A : zI (zwI (zwI (zwI u 262 (40 * r + (V.length : Int)) f) 263 (32 * (40 * r + (V.length : Int)) + n0) 46) 264 (40 * r + (V.length : Int)) (n0 + 1)) 256 r = zI u 256 r := by
      rw [zI_ne (by omega), zI_ne (by omega), zI_ne (by omega)]
    have hst : off + el * es + lA l0 = off + el * gS (N (ty - 100)) + lA l0 := by rw [hes]; unfold zel; rw [if_neg (by omega), (hSz h100).1]
    refine C_al_177 hr ⟨by omega, by omega⟩ ⟨by omega, by omega⟩ (by omega) (by rw [hppl]; omega) (pbs (lP l0)).length 0 _ (Nat.zero_add _) (h256A.trans h256u) hslot2.2.2.2.2 (by rw [List.take_zero, List.append_nil]; exact hQA) (by rw [hslot2.2.1]; exact ⟨by omega, by omega⟩) fun t hft hqt h256t h262t => ?_
    have hslot3 := mLf_of hslot2 hft (by omega) (by omega)
    rw [hslot3.1, hslot3.2.1, hslot3.2.2.1]
    have hFT := frSl_trans hFA hft
    have hFF := frSl_N (v := (V.length : Int) + 1) (frSl_I (a := 261) (v := lB l0) (frSl_I (a := 260) (v := off + el * es + lA l0) (frSl_I (a := 259) (v := lT l0) hFT (by omega) (by omega) (by omega)) (by omega) (by omega) (by omega)) (by omega) (by omega) (by omega))
    refine k1 _ hFF (mLv_snoc hV hFF zI_eq ?_ hVp)
    have hw : (lvOf N (dNm D r f) ty (dCt D r f) f off bit el).getD kk dl = (lT l0, off + el * gS (N (ty - 100)) + lA l0, lB l0, f, (dNm D r f, zix (dCt D r f) el) :: lP l0) := by
      unfold lvOf; rw [if_neg (by omega), getD_map (d := dl) hkl, ← hl0]
    rw [hw, ← hst]
    refine ⟨?_, ?_, ?_, ?_, ?_⟩
    · rw [zI_ne (by omega), zI_ne (by omega), zI_ne (by omega), zI_eq]; rfl
    · rw [zI_ne (by omega), zI_ne (by omega), zI_eq]; rfl
    · rw [zI_ne (by omega), zI_eq]; rfl
    · rw [zI_ne (by omega), zI_ne (by omega), zI_ne (by omega), zI_ne (by omega), h262t, zI_ne (by omega), zI_ne (by omega), zI_eq]; rfl
    · have hpl2 : pbs (lP ((lT l0, off + el * es + lA l0, lB l0, f, (dNm D r f, zix (dCt D r f) el) :: lP l0) : yLf)) = pp ++ [46] ++ pbs (lP l0) := by
        rw [hpp]
        show zlv _ ++ (if lP l0 = [] then [] else 46 :: pbs (lP l0)) = _
        rw [if_neg hp3, List.append_assoc]
        rfl
      rw [hpl2]
      refine mPth_of hqt ?_ (fun j q0 q1 => ?_) ?_
      · rw [zI_ne (by omega), zI_ne (by omega), zI_ne (by omega), zI_ne (by omega)]
      · rw [zI_ne (by omega), zI_ne (by omega), zI_ne (by omega), zI_ne (by omega)]
      · rw [List.length_append, hppl]; omega
  have n1 : zI (zwI (zwI (zwI s 264 (40 * r + (V.length : Int)) 0) 263 (32 * (40 * r + (V.length : Int)) + 0) (dNm D r f)) 264 (40 * r + (V.length : Int)) (0 + 1)) 256 r = (V.length : Int) := by
    rw [zI_ne (by omega), zI_ne (by omega), zI_ne (by omega)]; exact h256
  refine ⟨⟨by omega, by omega⟩, ⟨by omega, by omega⟩, ⟨by omega, by omega⟩, ⟨by omega, by omega⟩, ⟨by omega, by omega⟩, fun hc => ⟨⟨by omega, by omega⟩, fun h100 => ⟨⟨by omega, by omega⟩, ⟨by omega, by omega⟩, ?_⟩, fun h100 => ⟨⟨by omega, by omega⟩, ⟨by omega, by omega⟩, ?_⟩⟩,
    fun hc => ⟨⟨by omega, by omega⟩, ⟨by omega, by omega⟩, ⟨by omega, by omega⟩, ⟨by omega, by omega⟩, ⟨by omega, by omega⟩, ⟨by omega, by omega⟩, ⟨by omega, by omega⟩, ⟨by omega, by omega⟩, fun h100 => ⟨⟨by omega, by omega⟩, ⟨by omega, by omega⟩, ?_⟩, fun h100 => ⟨⟨by omega, by omega⟩, ⟨by omega, by omega⟩, ?_⟩⟩⟩
  · exact hplain _ _ h100 hF1 hQ1 (zlv_ix0 hc).symm
  · exact hnest _ _ _ h100 n1 hF1 hQ1 (zlv_ix0 hc).symm rfl
  · exact hplain _ _ h100 hF4 hQ4 (zlv_ix1 hc).symm
  · refine hnest _ _ _ h100 ?_ hF4 hQ4 (zlv_ix1 hc).symm rfl
    rw [zI_ne (by omega), zI_ne (by omega), zI_ne (by omega), zI_ne (by omega), zI_ne (by omega), zI_ne (by omega)]
    exact n1
end MLVS
