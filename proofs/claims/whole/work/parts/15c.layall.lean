/-! ===== the reference lays all its records ===== -/
/-- leaves of other records stay -/
def frR (r : Int) (s t : zSt) : Prop := frm (fun a => a = 256 ∨ (259 ≤ a ∧ a ≤ 264)) s t ∧ ∀ r' V, r' ≠ r → V.length ≤ 40 → (∀ x ∈ V, (pbs (lP x)).length ≤ 32) → mLv s r' V → mLv t r' V
theorem frR_refl {r : Int} {s : zSt} : frR r s s := ⟨frm_refl, fun _ _ _ _ _ h => h⟩
theorem frR_trans {r : Int} {s t u : zSt} (h : frR r s t) (k : frR r t u) : frR r s u := ⟨frm_trans h.1 k.1, fun r' V q1 q2 q3 q4 => k.2 r' V q1 q2 q3 (h.2 r' V q1 q2 q3 q4)⟩
theorem frR_Sl {r m : Int} {s t : zSt} (h : frSl r (40 * r + m) s t) (hm : 0 ≤ m ∧ m < 40) : frR r s t := ⟨h.1, fun _ _ q1 q2 q3 q4 => mLv_keep q4 h q1 hm q2 q3⟩
def mEnv (s : zSt) (N : Int → ySh) (D : Int → Int) (f ty off bit : Int) : Prop := mD s D ∧ zI s 266 f = off ∧ zI s 267 f = bit ∧ (100 ≤ ty → zI s 257 (ty - 100) = gS (N (ty - 100)) ∧ mLv s (ty - 100) (gV (N (ty - 100))))
/-- what is known of the record that is a type -/
def okN (N : Int → ySh) (ty : Int) : Prop := 100 ≤ ty → (0 ≤ gS (N (ty - 100)) ∧ gS (N (ty - 100)) ≤ 320) ∧ (gV (N (ty - 100))).length ≤ 40 ∧ ∀ x ∈ gV (N (ty - 100)), (pbs (lP x)).length ≤ 25 ∧ (0 ≤ lA x ∧ lA x ≤ 320) ∧ lP x ≠ []
theorem mEnv_R {s t : zSt} {N : Int → ySh} {D : Int → Int} {r f ty off bit : Int} (h : mEnv s N D f ty off bit) (hf : frR r s t) (hN : okN N ty) (hr : 100 ≤ ty → ty - 100 < r) : mEnv t N D f ty off bit :=
  ⟨fun j q0 q1 => (fI hf.1 (by omega)).trans (h.1 j q0 q1), (fI hf.1 (by omega)).trans h.2.1, (fI hf.1 (by omega)).trans h.2.2.1, fun h100 => ⟨(fI hf.1 (by omega)).trans (h.2.2.2 h100).1, hf.2 _ _ (by have := hr h100; omega) (hN h100).2.1 (fun x hx => by have := ((hN h100).2.2 x hx).1; omega) (h.2.2.2 h100).2⟩⟩
section MALL
variable {S : Option (Nat × (Nat → Int32))} {Q : Option Value ⊕ Nat → zSt → Prop}
theorem C_al_40 {N : Int → ySh} {D : Int → Int} {r f ty many off bit : Int} {el : Nat} {V : List yLf} (hr : 0 ≤ r ∧ r < 6) (hf : 0 ≤ f ∧ f < 8) (hty : 0 ≤ ty ∧ ty < 106) (hin : 100 ≤ ty → ty - 100 < r) (hct : dCt D r f ≤ 4) (hel : el ≤ 4) (hob : 0 ≤ off ∧ off ≤ 100000) (hN : okN N ty) (hmany : many = (tyL N ty : Int)) (hVl : V.length + tyL N ty ≤ 40)
    (hVp : ∀ x ∈ V ++ lvOf N (dNm D r f) ty (dCt D r f) f off bit el, (pbs (lP x)).length ≤ 32) (n : Nat) : ∀ (k : Nat) (s : zSt), k + n = tyL N ty → mEnv s N D f ty off bit → mLv s r (V ++ (lvOf N (dNm D r f) ty (dCt D r f) f off bit el).take k) →
    (∀ t, frR r s t → mLv t r (V ++ lvOf N (dNm D r f) ty (dCt D r f) f off bit el) → Q rU t) →
    wp S 200 40 [(0, rf 252), (1, iv r), (2, iv f), (3, iv el), (4, iv ty), (5, iv many), (6, iv k)] [] s Q := by
  induction n with
  | zero =>
    intro k s hk he hV hQ
    have hl := lvOf_len N (dNm D r f) ty (dCt D r f) f off bit el
    rw [show k = (lvOf N (dNm D r f) ty (dCt D r f) f off bit el).length by omega, List.take_length] at hV
    exact v_Model_addsLeaves_40 ⟨⟨by omega, by omega⟩, ⟨by omega, by omega⟩, fun _ => hQ s frR_refl hV, fun hc => by omega⟩
  | succ n ihn =>
    intro k s hk he hV hQ
    have hl := lvOf_len N (dNm D r f) ty (dCt D r f) f off bit el
    have htl : (V ++ (lvOf N (dNm D r f) ty (dCt D r f) f off bit el).take k).length = V.length + k := by rw [List.length_append, List.length_take]; omega
    refine C_al_step hr hf hty hin he.1 hct hel he.2.1 he.2.2.1 hob (fun h => ⟨(he.2.2.2 h).1, (hN h).1⟩) hmany (by omega) (fun h => ⟨(he.2.2.2 h).2, (hN h).2.1, (hN h).2.2⟩) hV (by omega) (fun x hx => hVp x ?_) fun t hft hlt => ?_
    · rcases List.mem_append.mp hx with hx | hx
      · exact List.mem_append.mpr (.inl hx)
      · exact List.mem_append.mpr (.inr (List.mem_of_mem_take hx))
    · have hfr := frR_Sl hft ⟨by omega, by omega⟩
      have htk : (V ++ (lvOf N (dNm D r f) ty (dCt D r f) f off bit el).take k) ++ [(lvOf N (dNm D r f) ty (dCt D r f) f off bit el).getD k dl] = V ++ (lvOf N (dNm D r f) ty (dCt D r f) f off bit el).take (k + 1) := by
        rw [List.append_assoc, List.take_add_one, List.getD_eq_getElem?_getD, List.getElem?_eq_getElem (by omega : k < (lvOf N (dNm D r f) ty (dCt D r f) f off bit el).length)]
        rfl
      rw [htk] at hlt
      exact ihn (k + 1) t (by omega) (mEnv_R he hfr hN hin) hlt fun u hfu hlu => hQ u (frR_trans hfr hfu) hlu
theorem C_addsLeaves {N : Int → ySh} {D : Int → Int} {r f off bit : Int} {el : Nat} {V : List yLf} {s : zSt} (hr : 0 ≤ r ∧ r < 6) (hf : 0 ≤ f ∧ f < 8) (hty : 0 ≤ dTy D r f ∧ dTy D r f < 106) (hin : 100 ≤ dTy D r f → dTy D r f - 100 < r) (hct : dCt D r f ≤ 4) (hel : el ≤ 4) (hob : 0 ≤ off ∧ off ≤ 100000) (hN : okN N (dTy D r f)) (hVl : V.length + tyL N (dTy D r f) ≤ 40)
    (hVp : ∀ x ∈ V ++ lvOf N (dNm D r f) (dTy D r f) (dCt D r f) f off bit el, (pbs (lP x)).length ≤ 32) (he : mEnv s N D f (dTy D r f) off bit) (hV : mLv s r V)
    (hQ : ∀ t, frR r s t → mLv t r (V ++ lvOf N (dNm D r f) (dTy D r f) (dCt D r f) f off bit el) → Q rU t) :
    wp S 200 0 [(0, rf 252), (1, iv r), (2, iv f), (3, iv el)] [] s Q := by
  have ht : zI s 253 (1 + 26 * r + 2 + 3 * f + 1) = dTy D r f := he.1 _ (by omega) (by omega)
  refine v_Model_addsLeaves_0 ⟨⟨by omega, by omega⟩, ?_⟩
  rw [ht]
  have h0 : ∀ many, many = (tyL N (dTy D r f) : Int) → wp S 200 40 [(0, rf 252), (1, iv r), (2, iv f), (3, iv el), (4, iv (dTy D r f)), (5, iv many), (6, iv 0)] [] s Q := fun many hm =>
    C_al_40 hr hf hty hin hct hel hob hN hm hVl hVp (tyL N (dTy D r f)) 0 s (Nat.zero_add _) he (by rw [List.take_zero, List.append_nil]; exact hV) hQ
  refine ⟨fun hc => h0 1 (by unfold tyL; rw [if_pos hc]; rfl), fun hc => ⟨⟨by omega, by omega⟩, h0 _ ?_⟩⟩
  rw [(he.2.2.2 hc).2.1]
  unfold tyL
  rw [if_neg (by omega)]
theorem C_lays_47 {N : Int → ySh} {D : Int → Int} {r f off bit : Int} {V : List yLf} (hr : 0 ≤ r ∧ r < 6) (hf : 0 ≤ f ∧ f < 8) (hty : 0 ≤ dTy D r f ∧ dTy D r f < 106) (hin : 100 ≤ dTy D r f → dTy D r f - 100 < r) (hct : 1 ≤ dCt D r f ∧ dCt D r f ≤ 4) (hob : 0 ≤ off ∧ off ≤ 100000) (hN : okN N (dTy D r f)) (hVl : V.length + (dCt D r f).toNat * tyL N (dTy D r f) ≤ 40)
    (hVp : ∀ x ∈ V ++ lvsOf N (dNm D r f) (dTy D r f) (dCt D r f) f off bit (dCt D r f).toNat, (pbs (lP x)).length ≤ 32) (n : Nat) : ∀ (e : Nat) (s : zSt), (e : Int) + n = dCt D r f → mEnv s N D f (dTy D r f) off bit → mLv s r (V ++ lvsOf N (dNm D r f) (dTy D r f) (dCt D r f) f off bit e) →
    (∀ t, frR r s t → mLv t r (V ++ lvsOf N (dNm D r f) (dTy D r f) (dCt D r f) f off bit (dCt D r f).toNat) → wp S 193 36 [(0, rf 252), (1, iv r), (2, iv (f + 1))] [] t Q) →
    wp S 193 47 [(0, rf 252), (1, iv r), (2, iv f), (3, iv e)] [] s Q := by
  induction n with
  | zero =>
    intro e s hk he hV hQ
    have hcn : zI s 253 (1 + 26 * r + 2 + 3 * f + 2) = dCt D r f := he.1 _ (by omega) (by omega)
    refine v_Model_lays_47 ⟨⟨by omega, by omega⟩, ⟨by omega, by omega⟩, fun _ => hQ s frR_refl ?_, fun hc => by omega⟩
    rw [show (dCt D r f).toNat = e by omega]
    exact hV
  | succ n ihn =>
    intro e s hk he hV hQ
    have hcn : zI s 253 (1 + 26 * r + 2 + 3 * f + 2) = dCt D r f := he.1 _ (by omega) (by omega)
    have hsub : ∀ m : Nat, m ≤ (dCt D r f).toNat → ∀ x ∈ V ++ lvsOf N (dNm D r f) (dTy D r f) (dCt D r f) f off bit m, (pbs (lP x)).length ≤ 32 := by
      intro m hm x hx
      refine hVp x ?_
      rcases List.mem_append.mp hx with hx | hx
      · exact List.mem_append.mpr (.inl hx)
      · refine List.mem_append.mpr (.inr ?_)
        obtain ⟨i, hi, hxi⟩ := List.mem_flatMap.mp hx
        exact List.mem_flatMap.mpr ⟨i, List.mem_range.mpr (by have := List.mem_range.mp hi; omega), hxi⟩
    have hmul : (e + 1) * tyL N (dTy D r f) ≤ (dCt D r f).toNat * tyL N (dTy D r f) := Nat.mul_le_mul_right _ (by omega)
    rw [Nat.succ_mul] at hmul
    refine v_Model_lays_47 ⟨⟨by omega, by omega⟩, ⟨by omega, by omega⟩, fun hc => by omega, fun _ => C_addsLeaves hr hf hty hin hct.2 (by omega) hob hN ?_ ?_ he hV fun t hft hlt => zkU_U ?_⟩
    · rw [List.length_append, lvsOf_len]; omega
    · rw [List.append_assoc, ← lvsOf_succ]
      exact hsub (e + 1) (by omega)
    · rw [List.append_assoc, ← lvsOf_succ] at hlt
      exact ihn (e + 1) t (by omega) (mEnv_R he hft hN hin) hlt fun u hfu hlu => hQ u (frR_trans hft hfu) hlu
theorem plo_id {N : Int → ySh} {pack : Int} {D : Int → Int} {r : Int} {o : Nat → Int} : ∀ n : Nat, (∀ j, j < n → o j = j) → plo N pack (fTc D r) o n = (gE (gN N pack (dFd D r) n), gL (gN N pack (dFd D r) n), gW (gN N pack (dFd D r) n)) := by
  intro n
  induction n with
  | zero => intro _; rfl
  | succ n ihn =>
    intro ho
    have hi := ihn fun j hj => ho j (by omega)
    unfold plo
    rw [hi, ho n (by omega)]
    rfl
theorem ploP_id {N : Int → ySh} {pack : Int} {D : Int → Int} {r : Int} {o : Nat → Int} {n : Nat} (ho : ∀ j, j ≤ n → o j = j) : ploP N pack (fTc D r) o n =
    ((gst (min (tyA N (dTy D r n)) pack) (zwd (dTy D r n)) (dCt D r n * tyB N (dTy D r n)) (gE (gN N pack (dFd D r) n)) (gL (gN N pack (dFd D r) n))).1, (gst (min (tyA N (dTy D r n)) pack) (zwd (dTy D r n)) (dCt D r n * tyB N (dTy D r n)) (gE (gN N pack (dFd D r) n)) (gL (gN N pack (dFd D r) n))).2.1) := by
  unfold ploP
  rw [plo_id n fun j hj => ho j (by omega), ho n (Nat.le_refl n)]
  rfl
theorem gN_mono (N : Int → ySh) (pack : Int) (F : Nat → Int × Int × Int) (m : Nat) : ∀ n, m ≤ n → ∃ W, gV (gN N pack F n) = gV (gN N pack F m) ++ W := by
  intro n
  induction n with
  | zero => intro h; exact ⟨[], by rw [show m = 0 by omega, List.append_nil]⟩
  | succ n ihn =>
    intro h
    by_cases hc : m = n + 1
    · subst hc; exact ⟨[], by rw [List.append_nil]⟩
    · obtain ⟨W, hW⟩ := ihn (by omega)
      refine ⟨W ++ lvsOf N (F n).1 (F n).2.1 (F n).2.2 (gQ (gN N pack F n)).length (gst (min (tyA N (F n).2.1) pack) (zwd (F n).2.1) ((F n).2.2 * tyB N (F n).2.1) (gE (gN N pack F n)) (gL (gN N pack F n))).1 (gst (min (tyA N (F n).2.1) pack) (zwd (F n).2.1) ((F n).2.2 * tyB N (F n).2.1) (gE (gN N pack F n)) (gL (gN N pack F n))).2.1 (F n).2.2.toNat, ?_⟩
      show gV (gN N pack F n) ++ _ = _
      rw [hW, List.append_assoc]
theorem okN_shp {D : Int → Int} (hD : okD D) {r ty : Int} (h1 : r < D 0) (hin : 100 ≤ ty → 0 ≤ ty - 100 ∧ ty - 100 < r) : okN (shp D) ty := by
  intro h100
  have hz := hin h100
  obtain ⟨h2, h3, h4⟩ := shp_OK hD (r := ty - 100) hz.1 (by omega)
  have h5 := zup_8 h2.2.1 h2.1.2
  have h6 := zup_b (e := gE (shp D (ty - 100))) h2.2.1
  have h7 := h2.1.1
  refine ⟨⟨by unfold gS; omega, by unfold gS; omega⟩, h4, fun x hx => ?_⟩
  have hl := shp_leaf hD (ty - 100).toNat (ty - 100) (by omega) (by omega) x hx
  have hD0 := hD.1
  have hp := pbs_len (lP x)
  have hne : lP x ≠ [] := fun hc => by have := hl.2.2.2.2.1.1; rw [hc] at this; exact absurd this (by decide)
  rw [if_neg hne] at hp
  have hpl := hl.2.2.2.2.1.2
  have hza := zp8_b (zby_8 (lT x))
  exact ⟨by omega, ⟨hl.2.1.1, by have := hl.2.1.2; omega⟩, hne⟩
theorem C_lays_36 {D : Int → Int} {r : Int} (hD : okD D) (h0 : 0 ≤ r) (h1 : r < D 0) (n : Nat) : ∀ (f : Nat) (s : zSt), (f : Int) + n = dN D r → mD s D → mLay s D r → (∀ j : Nat, (j : Int) < dN D r → zI s 266 j = (ploP (shp D) (dP D r) (fTc D r) (fun k => k) j).1 ∧ zI s 267 j = (ploP (shp D) (dP D r) (fTc D r) (fun k => k) j).2) → mLv s r (gV (gN (shp D) (dP D r) (dFd D r) f)) →
    (∀ t, frR r s t → mLv t r (gV (shp D r)) → wp S 193 2 [(0, rf 252), (1, iv (r + 1))] [] t Q) → wp S 193 36 [(0, rf 252), (1, iv r), (2, iv f)] [] s Q := by
  have hF := okD_Fs hD h0 h1
  obtain ⟨hr, hp, hn8, hfs⟩ := hF
  have hsh := shp_eq (D := D) h0 fun f q0 q1 => (hfs f q0 q1).1.2.1
  have hL := shp_L hD h0 h1
  have hO := shp_OK hD h0 h1
  induction n with
  | zero =>
    intro f s hk hm hlay hpos hV hQ
    have hd : zI s 253 (1 + 26 * r + 1) = dN D r := hm _ (by omega) (by omega)
    refine v_Model_lays_36 ⟨⟨by omega, by omega⟩, ⟨by omega, by omega⟩, fun _ => hQ s frR_refl ?_, fun hc => by omega⟩
    rw [hsh, show (dN D r).toNat = f by omega]
    exact hV
  | succ n ihn =>
    intro f s hk hm hlay hpos hV hQ
    have hd : zI s 253 (1 + 26 * r + 1) = dN D r := hm _ (by omega) (by omega)
    obtain ⟨⟨hf1, hf4, hf5, hf6⟩, hf2, hf3⟩ := hfs f (by omega) (by omega)
    have hin : 100 ≤ dTy D r f → 0 ≤ dTy D r f - 100 ∧ dTy D r f - 100 < r := fun h => ⟨(okT_in hf4 h).1, (okT_in hf4 h).2.1⟩
    obtain ⟨W, hW⟩ := gN_mono (shp D) (dP D r) (dFd D r) (f + 1) (dN D r).toNat (by omega)
    rw [← hsh] at hW
    have hgl := plc_len (shp D) (dP D r) (dNm D r f) (dTy D r f) (dCt D r f) (gN (shp D) (dP D r) (dFd D r) f)
    have hgl' : (gV (gN (shp D) (dP D r) (dFd D r) (f + 1))).length = (gV (gN (shp D) (dP D r) (dFd D r) f)).length + (dCt D r f).toNat * tyL (shp D) (dTy D r f) := hgl
    have hWl := congrArg List.length hW
    rw [List.length_append] at hWl
    have hgq := gQ_len (shp D) (dP D r) (dFd D r) f
    obtain ⟨hp1, hp2⟩ := hpos f (by omega)
    have hgo := gN_ok (N := shp D) (F := dFd D r) hp f fun k hk => by
      obtain ⟨⟨g1, g2, g3, g4⟩, -⟩ := hfs k (by omega) (by omega)
      refine ⟨fun ht => ?_, g3, g4⟩
      have hz := okT_in g2 ht
      have ho := shp_OK hD (r := dTy D r k - 100) hz.1 (by omega)
      exact ⟨ho.1, ho.2.1 hz.2.2⟩
    rw [ploP_id fun j hj => rfl] at hp1 hp2
    have hgi := gst_in (own := min (tyA (shp D) (dTy D r f)) (dP D r)) (w := zwd (dTy D r f)) (len := dCt D r f * tyB (shp D) (dTy D r f)) (zp8_min hf2 hp) hgo.1.1.1 hgo.1.2.2.1 (zwd_b _) hf3.1
    have hgb := gst_step (own := min (tyA (shp D) (dTy D r f)) (dP D r)) (w := zwd (dTy D r f)) (len := dCt D r f * tyB (shp D) (dTy D r f)) (zp8_min hf2 hp) hgo.1.1.1 hgo.1.2.2.1 (zwd_b _) hf3
    have hVeq : gV (gN (shp D) (dP D r) (dFd D r) (f + 1)) = gV (gN (shp D) (dP D r) (dFd D r) f) ++ lvsOf (shp D) (dNm D r f) (dTy D r f) (dCt D r f) f (zI s 266 f) (zI s 267 f) (dCt D r f).toNat := by
      show gV (gN (shp D) (dP D r) (dFd D r) f) ++ lvsOf _ _ _ _ ((gQ (gN (shp D) (dP D r) (dFd D r) f)).length : Int) _ _ _ = _
      rw [hgq, hp1, hp2]
      rfl
    have hVl : (gV (gN (shp D) (dP D r) (dFd D r) (f + 1))).length ≤ 40 := by omega
    have hVp : ∀ x ∈ gV (gN (shp D) (dP D r) (dFd D r) (f + 1)), (pbs (lP x)).length ≤ 32 := fun x hx => by
      have hx2 : x ∈ gV (shp D r) := by rw [hW]; exact List.mem_append.mpr (.inl hx)
      have := okL_path (hL x hx2) (Nat.le_refl 6)
      omega
    have hsl : (gst (min (tyA (shp D) (dTy D r f)) (dP D r)) (zwd (dTy D r f)) (dCt D r f * tyB (shp D) (dTy D r f)) (gE (gN (shp D) (dP D r) (dFd D r) f)) (gL (gN (shp D) (dP D r) (dFd D r) f))).1 ≤ 100000 := by
      have hgoE := hgo.1.1.2
      rcases Int.lt_or_le 0 (zwd (dTy D r f)) with hw | hw
      · have := (hgi.2.2.1 hw).1; have := hgb.1.2; omega
      · have := (hgi.2.2.2 (by have := zwd_b (dTy D r f); omega)).1; have := hgb.1.2; omega
    have hob : 0 ≤ zI s 266 f ∧ zI s 266 f ≤ 100000 := ⟨by rw [hp1]; exact hgi.1, by rw [hp1]; exact hsl⟩
    refine v_Model_lays_36 ⟨⟨by omega, by omega⟩, ⟨by omega, by omega⟩, fun hc => by omega, fun _ => ?_⟩
    have hgl2 : (gV (gN (shp D) (dP D r) (dFd D r) f)).length + (dCt D r f).toNat * tyL (shp D) (dTy D r f) ≤ 40 := by
      rw [← hgl]; exact hVl
    rw [hVeq] at hVp
    refine C_lays_47 hr ⟨by omega, by omega⟩ (okT_106 hf4 (by omega)) (fun h => (hin h).2) hf5 hob (okN_shp hD h1 hin) hgl2 hVp (dCt D r f).toNat 0 s (by omega) ⟨hm, rfl, rfl, fun h => ?_⟩ (by
      show mLv s r (gV (gN (shp D) (dP D r) (dFd D r) f) ++ [])
      rw [List.append_nil]; exact hV) fun t hft hlt => ?_
    · have hz := hlay _ (hin h).1 (hin h).2
      exact ⟨hz.1, hz.2.2⟩
    · rw [← hVeq] at hlt
      refine ihn (f + 1) t (by omega) (fun j q0 q1 => (fI hft.1 (by omega)).trans (hm j q0 q1)) (fun i q0 q1 => ?_) (fun j hj => ⟨(fI hft.1 (by omega)).trans (hpos j hj).1, (fI hft.1 (by omega)).trans (hpos j hj).2⟩) hlt fun u hfu hlu => hQ u (frR_trans hft hfu) hlu
      have hz := hlay i q0 q1
      have ho := shp_OK hD (r := i) q0 (by omega)
      exact ⟨(fI hft.1 (by omega)).trans hz.1, (fI hft.1 (by omega)).trans hz.2.1, hft.2 i _ (by omega) ho.2.2 (fun x hx => by have := okL_path (shp_L hD q0 (by omega) x hx) (Nat.le_refl 6); omega) hz.2.2⟩
/-- cells of the reference's layouts -/
def cLy (a : Int) : Prop := 256 ≤ a ∧ a ≤ 267
theorem C_lays_2 {D : Int → Int} (hD : okD D) (n : Nat) : ∀ (r : Nat) (s : zSt), (r : Int) + n = D 0 → mD s D → mLay s D r → (∀ t, frm cLy s t → mLay t D (D 0) → Q rU t) → wp S 193 2 [(0, rf 252), (1, iv r)] [] s Q := by
  have hD0 := hD.1
  induction n with
  | zero =>
    intro r s hk hm hlay hQ
    have hd : zI s 253 0 = D 0 := hm 0 (by omega) (by omega)
    refine v_Model_lays_2 ⟨⟨by omega, by omega⟩, fun _ => hQ s frm_refl ?_, fun hc => by omega⟩
    rw [show D 0 = r by omega]
    exact hlay
  | succ n ihn =>
    intro r s hk hm hlay hQ
    have hd : zI s 253 0 = D 0 := hm 0 (by omega) (by omega)
    have hF := okD_Fs hD (r := r) (by omega) (by omega)
    have hsh := shp_eq (D := D) (r := r) (by omega) fun f q0 q1 => (hF.2.2.2 f q0 q1).1.2.1
    refine v_Model_lays_2 ⟨⟨by omega, by omega⟩, fun hc => by omega, fun _ => C_inOrder fun t1 hf1 ho1 => zkU_U ?_⟩
    have hm1 : mD t1 D := fun j q0 q1 => (fI hf1 (by omega)).trans (hm j q0 q1)
    refine C_places hF (o := fun k => k) (fun k hk => ⟨by omega, hk⟩) hm1 (fun i q0 q1 => ?_) (fun j hj => ho1 j (by omega) (by have := hF.2.2.1; omega)) fun t2 hf2 h258 h258r hpos => ?_
    · have hz := hlay i q0 q1
      exact ⟨(fI hf1 (by omega)).trans hz.1, (fI hf1 (by omega)).trans hz.2.1⟩
    · have hpl := plo_id (N := shp D) (pack := dP D r) (D := D) (r := r) (o := fun k => (k : Int)) (dN D r).toNat fun j hj => rfl
      rw [← hsh] at hpl
      rw [hpl] at h258r ⊢
      dsimp only at h258r ⊢
      have hO := (shp_OK hD (r := r) (by omega) (by omega)).1
      have hub := zup_8 hO.2.1 hO.1.2
      have huc := zup_b (e := gE (shp D r)) hO.2.1
      have hol := (shp_OK hD (r := r) (by omega) (by omega)).2.2
      have hoe := hO.1.1
      refine zkI_I ⟨by omega, by omega⟩ ⟨⟨by omega, by omega⟩, ?_⟩
      have hm2 : mD (zwI (zwI t2 257 r (zup (gE (shp D r)) (gW (shp D r)))) 256 r 0) D := fun j q0 q1 => by
        rw [zI_ne (by omega), zI_ne (by omega)]
        exact (fI hf2 (by omega)).trans (hm1 j q0 q1)
      refine C_lays_36 hD (r := r) (by omega) (by omega) (dN D r).toNat 0 _ (by have := hF.2.2.1; omega) hm2 (fun i q0 q1 => ?_) (fun j hj => ?_) ⟨zI_eq, fun i hi => absurd hi (Nat.not_lt_zero i)⟩ fun t3 hf3 hl3 => ?_
      · have hz := hlay i q0 q1
        refine ⟨?_, ?_, ?_, ?_⟩
        · rw [zI_ne (by omega), zI_nj (by omega), fI hf2 (by omega), fI hf1 (by omega)]; exact hz.1
        · rw [zI_ne (by omega), zI_ne (by omega), h258 i (by omega), fI hf1 (by omega)]; exact hz.2.1
        · rw [zI_nj (by omega), zI_ne (by omega), fI hf2 (by omega), fI hf1 (by omega)]; exact hz.2.2.1
        · intro k hk
          obtain ⟨w1, w2, w3, w4, w5⟩ := hz.2.2.2 k hk
          have hsame : ∀ a j, 259 ≤ a → a ≤ 264 → zI (zwI (zwI t2 257 r (zup (gE (shp D r)) (gW (shp D r)))) 256 r 0) a j = zI s a j := fun a j q1 q2 => by
            rw [zI_ne (by omega), zI_ne (by omega), fI hf2 (by omega), fI hf1 (by omega)]
          refine ⟨(hsame _ _ (by omega) (by omega)).trans w1, (hsame _ _ (by omega) (by omega)).trans w2, (hsame _ _ (by omega) (by omega)).trans w3, (hsame _ _ (by omega) (by omega)).trans w4, (hsame _ _ (by omega) (by omega)).trans w5.1, fun q hq => (hsame _ _ (by omega) (by omega)).trans (w5.2 q hq)⟩
      · have hz := hpos (fun _ _ => rfl) j hj
        refine ⟨?_, ?_⟩
        · rw [zI_ne (by omega), zI_ne (by omega)]; exact hz.1
        · rw [zI_ne (by omega), zI_ne (by omega)]; exact hz.2
      · have hall : frm cLy s t3 := frm_trans (frm_mono hf1 fun a ha => by unfold cLy; omega) (frm_trans (frm_mono hf2 fun a ha => by unfold cLy; omega) (frm_trans (frm_I (frm_I frm_refl (by unfold cLy; omega)) (by unfold cLy; omega)) (frm_mono hf3.1 fun a ha => by unfold cLy; omega)))
        refine ihn (r + 1) t3 (by omega) (fun j q0 q1 => (fI hf3.1 (by omega)).trans (hm2 j q0 q1)) (fun i q0 q1 => ?_) fun u hfu hlu => hQ u (frm_trans hall hfu) hlu
        by_cases hir : i = r
        · subst hir
          refine ⟨?_, ?_, hl3⟩
          · rw [fI hf3.1 (by omega), zI_ne (by omega), zI_eq]; rfl
          · rw [fI hf3.1 (by omega), zI_ne (by omega), zI_ne (by omega)]; exact h258r
        · have hz := hlay i q0 (by omega)
          refine ⟨?_, ?_, hf3.2 i _ hir (shp_OK hD (r := i) q0 (by omega)).2.2 (fun x hx => by have := okL_path (shp_L hD q0 (by omega) x hx) (Nat.le_refl 6); omega) ⟨?_, ?_⟩⟩
          · rw [fI hf3.1 (by omega), zI_ne (by omega), zI_nj (by omega), fI hf2 (by omega), fI hf1 (by omega)]; exact hz.1
          · rw [fI hf3.1 (by omega), zI_ne (by omega), zI_ne (by omega), h258 i (by omega), fI hf1 (by omega)]; exact hz.2.1
          · rw [zI_nj (by omega), zI_ne (by omega), fI hf2 (by omega), fI hf1 (by omega)]; exact hz.2.2.1
          · intro k hk
            obtain ⟨w1, w2, w3, w4, w5⟩ := hz.2.2.2 k hk
            have hsame : ∀ a j, 259 ≤ a → a ≤ 264 → zI (zwI (zwI t2 257 r (zup (gE (shp D r)) (gW (shp D r)))) 256 r 0) a j = zI s a j := fun a j q1 q2 => by
              rw [zI_ne (by omega), zI_ne (by omega), fI hf2 (by omega), fI hf1 (by omega)]
            refine ⟨(hsame _ _ (by omega) (by omega)).trans w1, (hsame _ _ (by omega) (by omega)).trans w2, (hsame _ _ (by omega) (by omega)).trans w3, (hsame _ _ (by omega) (by omega)).trans w4, (hsame _ _ (by omega) (by omega)).trans w5.1, fun q hq => (hsame _ _ (by omega) (by omega)).trans (w5.2 q hq)⟩
theorem C_lays {D : Int → Int} (hD : okD D) {s : zSt} (hm : mD s D) (hQ : ∀ t, frm cLy s t → mLay t D (D 0) → Q rU t) : wp S 193 0 [(0, rf 252)] [] s Q :=
  v_Model_lays_0 (C_lays_2 hD (D 0).toNat 0 s (by have := hD.1; omega) hm (fun r q0 q1 => by omega) hQ)
end MALL
