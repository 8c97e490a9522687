/-! ===== frames ===== -/
/-- only cells in P are other; nothing is made -/
def frm (P : Int → Prop) (s t : zSt) : Prop := (∀ a j, ¬ P a → zI t a j = zI s a j ∧ zL t a j = zL s a j) ∧ zc t = zc s ∧ zn t = zn s
theorem frm_refl {P : Int → Prop} {s : zSt} : frm P s s := ⟨fun _ _ _ => ⟨rfl, rfl⟩, rfl, rfl⟩
theorem frm_trans {P : Int → Prop} {s t u : zSt} (h : frm P s t) (k : frm P t u) : frm P s u :=
  ⟨fun a j n => ⟨(k.1 a j n).1.trans (h.1 a j n).1, (k.1 a j n).2.trans (h.1 a j n).2⟩, k.2.1.trans h.2.1, k.2.2.trans h.2.2⟩
theorem frm_mono {P P' : Int → Prop} {s t : zSt} (h : frm P s t) (hp : ∀ a, P a → P' a) : frm P' s t := ⟨fun a j n => h.1 a j fun hc => n (hp a hc), h.2⟩
theorem frm_I {P : Int → Prop} {s t : zSt} {a j v : Int} (h : frm P s t) (ha : P a) : frm P s (zwI t a j v) :=
  ⟨fun b k n => ⟨(zI_ne (fun hc : b = a => n (by rw [hc]; exact ha))).trans (h.1 b k n).1, (h.1 b k n).2⟩, h.2⟩
theorem frm_L {P : Int → Prop} {s t : zSt} {a j : Int} {v : Int64} (h : frm P s t) (ha : P a) : frm P s (zwL t a j v) :=
  ⟨fun b k n => ⟨(h.1 b k n).1, (zL_ne (fun hc : b = a => n (by rw [hc]; exact ha))).trans (h.1 b k n).2⟩, h.2⟩
theorem frm_C {P : Int → Prop} {s t : zSt} {a b n : Int} (h : frm P s t) (ha : P a) : frm P s (zwC t a b n) :=
  ⟨fun c k hn => ⟨by rw [zI_wC, if_neg (fun hc : c = a ∧ 0 ≤ k ∧ k < n => hn (by rw [hc.1]; exact ha))]; exact (h.1 c k hn).1, (h.1 c k hn).2⟩, h.2⟩
theorem fI {P : Int → Prop} {s t : zSt} (h : frm P s t) {a j : Int} (n : ¬ P a) : zI t a j = zI s a j := (h.1 a j n).1
/-! ===== the reference lays its records ===== -/
def mD (s : zSt) (D : Int → Int) : Prop := ∀ j, 0 ≤ j → j < 1199 → zI s 253 j = D j
def mPth (s : zSt) (at_ : Int) (p : List Int) : Prop := zI s 264 at_ = (p.length : Int) ∧ ∀ k : Nat, k < p.length → zI s 263 (32 * at_ + k) = p.getD k 0
def mLf (s : zSt) (at_ : Int) (l : yLf) : Prop := zI s 259 at_ = lT l ∧ zI s 260 at_ = lA l ∧ zI s 261 at_ = lB l ∧ zI s 262 at_ = lF l ∧ mPth s at_ (pbs (lP l))
def mLv (s : zSt) (r : Int) (V : List yLf) : Prop := zI s 256 r = (V.length : Int) ∧ ∀ i : Nat, i < V.length → mLf s (40 * r + i) (V.getD i dl)
def mRc (s : zSt) (D : Int → Int) (r : Int) : Prop := zI s 257 r = gS (shp D r) ∧ zI s 258 r = gW (shp D r) ∧ mLv s r (gV (shp D r))
def mLay (s : zSt) (D : Int → Int) (n : Int) : Prop := ∀ r, 0 ≤ r → r < n → mRc s D r
section MLAY
variable {S : Option (Nat × (Nat → Int32))} {Q : Option Value ⊕ Nat → zSt → Prop}
theorem C_inOrder_2 (n : Nat) : ∀ (i : Int) (s : zSt), i + n = 8 → 0 ≤ i → (∀ j, 0 ≤ j → j < i → zI s 265 j = j) → (∀ t, frm (fun a => a = 265) s t → (∀ j, 0 ≤ j → j < 8 → zI t 265 j = j) → Q rU t) → wp S 194 2 [(0, rf 252), (1, iv i)] [] s Q := by
  induction n with
  | zero =>
    intro i s hn h0 hj k
    exact v_Model_inOrder_2 ⟨⟨by omega, by omega⟩, fun _ => k s frm_refl fun j q0 q1 => hj j q0 (by omega), fun hc => by omega⟩
  | succ n ihn =>
    intro i s hn h0 hj k
    refine v_Model_inOrder_2 ⟨⟨by omega, by omega⟩, fun hc => by omega, fun _ => ⟨⟨by omega, by omega⟩, ihn (i + 1) _ (by omega) (by omega) ?_ fun t hf => k t (frm_trans (frm_I frm_refl rfl) hf)⟩⟩
    intro j q0 q1
    by_cases hc : j = i
    · subst hc; exact zI_eq
    · rw [zI_nj hc]; exact hj j q0 (by omega)
theorem C_inOrder {s : zSt} (k : ∀ t, frm (fun a => a = 265) s t → (∀ j, 0 ≤ j → j < 8 → zI t 265 j = j) → Q rU t) : wp S 194 0 [(0, rf 252)] [] s Q :=
  v_Model_inOrder_0 (C_inOrder_2 8 0 s (by decide) (by decide) (fun j q0 q1 => by omega) k)
/-- fields in an order: end, bits left, alignment -/
def plo (N : Int → ySh) (pack : Int) (T : Int → Int × Int) (o : Nat → Int) : Nat → Int × Int × Int
  | 0 => (0, 0, 1)
  | k + 1 => ((gst (min (tyA N (T (o k)).1) pack) (zwd (T (o k)).1) ((T (o k)).2 * tyB N (T (o k)).1) (plo N pack T o k).1 (plo N pack T o k).2.1).2.2.1,
      (gst (min (tyA N (T (o k)).1) pack) (zwd (T (o k)).1) ((T (o k)).2 * tyB N (T (o k)).1) (plo N pack T o k).1 (plo N pack T o k).2.1).2.2.2,
      max (plo N pack T o k).2.2 (min (tyA N (T (o k)).1) pack))
def ploP (N : Int → ySh) (pack : Int) (T : Int → Int × Int) (o : Nat → Int) (k : Nat) : Int × Int :=
  ((gst (min (tyA N (T (o k)).1) pack) (zwd (T (o k)).1) ((T (o k)).2 * tyB N (T (o k)).1) (plo N pack T o k).1 (plo N pack T o k).2.1).1,
   (gst (min (tyA N (T (o k)).1) pack) (zwd (T (o k)).1) ((T (o k)).2 * tyB N (T (o k)).1) (plo N pack T o k).1 (plo N pack T o k).2.1).2.1)
theorem gst_step {own w len e l : Int} (ho : zp8 own) (h0 : 0 ≤ e) (hl : 0 ≤ l ∧ l ≤ 16 ∧ (0 < l → 2 ≤ e)) (hw : 0 ≤ w ∧ w ≤ 16) (hlen : 0 ≤ len ∧ len ≤ 1280) :
    (0 ≤ (gst own w len e l).2.2.1 ∧ (gst own w len e l).2.2.1 ≤ e + 1290) ∧ (0 ≤ (gst own w len e l).2.2.2 ∧ (gst own w len e l).2.2.2 ≤ 16 ∧ (0 < (gst own w len e l).2.2.2 → 2 ≤ (gst own w len e l).2.2.1)) := by
  have hb := zup_b (e := e) ho
  have hz := zp8_b ho
  unfold gst
  split
  · split
    · refine ⟨⟨?_, ?_⟩, ?_, ?_, ?_⟩ <;> dsimp only <;> omega
    · refine ⟨⟨?_, ?_⟩, ?_, ?_, ?_⟩ <;> dsimp only <;> omega
  · refine ⟨⟨?_, ?_⟩, ?_, ?_, ?_⟩ <;> dsimp only <;> omega
theorem plo_ok {N : Int → ySh} {pack : Int} {T : Int → Int × Int} {o : Nat → Int} (hp : zp8 pack) : ∀ n : Nat, (∀ k, k < n → zp8 (tyA N (T (o k)).1) ∧ (0 ≤ (T (o k)).2 * tyB N (T (o k)).1 ∧ (T (o k)).2 * tyB N (T (o k)).1 ≤ 1280)) →
    (0 ≤ (plo N pack T o n).1 ∧ (plo N pack T o n).1 ≤ 1290 * n) ∧ (0 ≤ (plo N pack T o n).2.1 ∧ (plo N pack T o n).2.1 ≤ 16 ∧ (0 < (plo N pack T o n).2.1 → 2 ≤ (plo N pack T o n).1)) ∧ zp8 (plo N pack T o n).2.2 := by
  intro n
  induction n with
  | zero =>
    intro _
    show (0 ≤ (0 : Int) ∧ (0 : Int) ≤ 1290 * ((0 : Nat) : Int)) ∧ (0 ≤ (0 : Int) ∧ (0 : Int) ≤ 16 ∧ ((0 : Int) < 0 → (2 : Int) ≤ 0)) ∧ zp8 1
    exact ⟨⟨by decide, by decide⟩, ⟨by decide, by decide, fun hc => absurd hc (by decide)⟩, .inl rfl⟩
  | succ n ihn =>
    intro hk
    obtain ⟨i1, i2, i3⟩ := ihn fun k h => hk k (by omega)
    obtain ⟨k1, k2⟩ := hk n (by omega)
    have hs := gst_step (own := min (tyA N (T (o n)).1) pack) (w := zwd (T (o n)).1) (len := (T (o n)).2 * tyB N (T (o n)).1) (zp8_min k1 hp) i1.1 i2 (zwd_b _) k2
    refine ⟨⟨hs.1.1, ?_⟩, hs.2, zp8_max i3 (zp8_min k1 hp)⟩
    show (gst _ _ _ _ _).2.2.1 ≤ _
    omega
/-- a unit that is open, and how much of it is used -/
def unR (u d e l : Int) : Prop := (0 ≤ d ∧ d ≤ 16) ∧ ((u = -1 ∧ l = 0) ∨ (u = e - 2 ∧ 0 ≤ e - 2 ∧ l = 16 - d))
theorem C_places_113 {s : zSt} {r pack e u d al k f t own w l cnt tb : Int} (hr : 0 ≤ r ∧ r < 6) (hf : 0 ≤ f ∧ f < 8) (he : 0 ≤ e ∧ e ≤ 20000) (hu : unR u d e l) (ho : zp8 own) (ht : 0 ≤ t ∧ t < 106) (hw : w = zwd t) (hcnt : zI s 253 (1 + 26 * r + 2 + 3 * f + 2) = cnt) (htb : zel t (zI s 257 (t - 100)) = tb)
    (k1 : ∀ u' d' : Int, unR u' d' (gst own w (cnt * tb) e l).2.2.1 (gst own w (cnt * tb) e l).2.2.2 → wp S 195 24 [(0, rf 252), (1, iv r), (2, iv pack), (3, iv (gst own w (cnt * tb) e l).2.2.1), (4, iv u'), (5, iv d'), (6, iv al), (7, iv (k + 1))] [] (zwI (zwI s 266 f (gst own w (cnt * tb) e l).1) 267 f (gst own w (cnt * tb) e l).2.1) Q) :
    wp S 195 113 [(0, rf 252), (1, iv r), (2, iv pack), (3, iv e), (4, iv u), (5, iv d), (6, iv al), (7, iv k), (8, iv f), (9, iv t), (11, iv own)] [iv w] s Q := by
  have hb := zup_b (e := e) ho
  have hz := zp8_b ho
  have hwb := zwd_b t
  have hnb : w ≤ 0 → wp S 195 24 [(0, rf 252), (1, iv r), (2, iv pack), (3, iv (zup e own + tb * cnt)), (4, iv (-1)), (5, iv w), (6, iv al), (7, iv (k + 1))] [] (zwI (zwI s 266 f (zup e own)) 267 f 0) Q := fun hc => by
    have hq := k1 (-1) w
    have hg : gst own w (cnt * tb) e l = (zup e own, 0, zup e own + cnt * tb, 0) := by unfold gst; rw [if_neg (by omega)]
    rw [hg] at hq
    rw [Int.mul_comm]
    exact hq ⟨by omega, .inl ⟨rfl, rfl⟩⟩
  have hnw : 0 < w → (¬ w ≤ l) → wp S 195 24 [(0, rf 252), (1, iv r), (2, iv pack), (3, iv (zup e own + 2)), (4, iv (zup e own)), (5, iv w), (6, iv al), (7, iv (k + 1))] [] (zwI (zwI s 266 f (zup e own)) 267 f 0) Q := fun hc hc2 => by
    have hq := k1 (zup e own) w
    have hg : gst own w (cnt * tb) e l = (zup e own, 0, zup e own + 2, 16 - w) := by unfold gst; rw [if_pos hc, if_neg hc2]
    rw [hg] at hq
    exact hq ⟨by omega, .inr ⟨by dsimp only; omega, by dsimp only; omega, rfl⟩⟩
  have o1 : rng (e + own - 1) := ⟨by omega, by omega⟩
  have o2 : rng own := ⟨by omega, by omega⟩
  have o3 : rng (zup e own) := ⟨by omega, by omega⟩
  have o4 : rng t := ⟨by omega, by omega⟩
  have o5 : 0 ≤ 1 + 26 * r + 2 + 3 * f + 2 ∧ 1 + 26 * r + 2 + 3 * f + 2 < 1199 := ⟨by omega, by omega⟩
  obtain ⟨hd, hu⟩ := hu
  subst htb hcnt
  refine v_Model_places_113 ⟨⟨by omega, by omega⟩, fun hc => ⟨o1, o2, by omega, by omega, hf, o3, fun _ => ⟨fun _ => ⟨o4, ht.2, o5, hnb hc⟩, fun hc2 => by omega⟩, fun hc2 => by omega⟩, fun hc => ⟨?_, fun hc2 => ?_, fun hc2 => ?_⟩⟩
  · rcases hu with hu | hu <;> exact ⟨by omega, by omega⟩
  · refine ⟨o1, o2, by omega, by omega, hf, o3, fun hc3 => by omega, fun _ => ⟨fun hc3 => by omega, fun _ => hnw hc ?_⟩⟩
    rcases hu with hu | hu <;> omega
  · rcases hu with hu | hu
    · exact absurd hu.1 hc2
    refine ⟨⟨by omega, by omega⟩, fun hc3 => ⟨o1, o2, by omega, by omega, hf, o3, fun hc4 => by omega, fun _ => ⟨fun hc4 => by omega, fun _ => hnw hc (by omega)⟩⟩, fun hc3 => ⟨hf, ⟨by omega, by omega⟩, ?_⟩⟩
    have hq := k1 u (d + w)
    have hg : gst own w (zI s 253 (1 + 26 * r + 2 + 3 * f + 2) * zel t (zI s 257 (t - 100))) e l = (e - 2, 16 - l, e, l - w) := by unfold gst; rw [if_pos hc, if_pos (by omega)]
    rw [hg] at hq
    have e1 : e - 2 = u := by omega
    have e2 : 16 - l = d := by omega
    dsimp only at hq
    rw [e1, e2] at hq
    exact hq ⟨by omega, .inr ⟨e1.symm, by omega, by omega⟩⟩
/-- what the reference knows of types: bytes and alignments of the records before r -/
def mTy (s : zSt) (N : Int → ySh) (r : Int) : Prop := ∀ i, 0 ≤ i → i < r → zI s 257 i = gS (N i) ∧ zI s 258 i = gW (N i)
def fTc (D : Int → Int) (r : Int) (f : Int) : Int × Int := (dTy D r f, dCt D r f)
theorem zel_at {N : Int → ySh} {t v : Int} {g : ySh → Int} (h : 100 ≤ t → v = g (N (t - 100))) : zel t v = zel t (g (N (t - 100))) := by
  unfold zel
  split
  · rfl
  · exact h (by omega)
/-- facts of the fields of a record -/
def okFs (D : Int → Int) (r : Int) : Prop := (0 ≤ r ∧ r < 6) ∧ zp8 (dP D r) ∧ (0 ≤ dN D r ∧ dN D r ≤ 8) ∧ ∀ f, 0 ≤ f → f < dN D r → okF D r f ∧ zp8 (tyA (shp D) (dTy D r f)) ∧ (0 ≤ dCt D r f * tyB (shp D) (dTy D r f) ∧ dCt D r f * tyB (shp D) (dTy D r f) ≤ 1280)
theorem okD_Fs {D : Int → Int} (hD : okD D) {r : Int} (h0 : 0 ≤ r) (h1 : r < D 0) : okFs D r := by
  obtain ⟨o1, o2, o3, -⟩ := hD.2 r h0 h1
  refine ⟨⟨h0, by have := hD.1; omega⟩, o1, o2, fun f q0 q1 => ⟨o3 f q0 q1, ?_⟩⟩
  obtain ⟨f1, f2, f3, f4⟩ := o3 f q0 q1
  have ht := ty_ok (N := shp D) (t := dTy D r f) fun h => by
    have hz := okT_in f2 h
    have ho := shp_OK hD (r := dTy D r f - 100) (by omega) (by omega)
    exact ⟨ho.1, ho.2.1 hz.2.2⟩
  refine ⟨ht.1, Int.mul_nonneg (by omega) ht.2.1.1, ?_⟩
  have hl : tyL (shp D) (dTy D r f) ≤ 40 := by
    unfold tyL
    split
    · decide
    · next h =>
      have hz := okT_in f2 (by omega)
      exact (shp_OK hD (r := dTy D r f - 100) (by omega) (by omega)).2.2
  have h2 : dCt D r f * tyB (shp D) (dTy D r f) ≤ 4 * 320 := Int.mul_le_mul (by omega) (by omega) ht.2.1.1 (by omega)
  omega
theorem C_places_24 {D : Int → Int} {r : Int} (hF : okFs D r) {o : Nat → Int} (hop : ∀ k : Nat, (k : Int) < dN D r → 0 ≤ o k ∧ o k < dN D r) (n : Nat) : ∀ (k : Nat) (s : zSt) (u d : Int), (k : Int) + n = dN D r → mD s D → mTy s (shp D) r → (∀ j : Nat, (j : Int) < dN D r → zI s 265 j = o j) →
    unR u d (plo (shp D) (dP D r) (fTc D r) o k).1 (plo (shp D) (dP D r) (fTc D r) o k).2.1 → ((∀ j : Nat, (j : Int) < dN D r → o j = j) → ∀ j : Nat, j < k → zI s 266 j = (ploP (shp D) (dP D r) (fTc D r) o j).1 ∧ zI s 267 j = (ploP (shp D) (dP D r) (fTc D r) o j).2) →
    (∀ t, frm (fun a => a = 266 ∨ a = 267 ∨ a = 258) s t → (∀ i, i ≠ r → zI t 258 i = zI s 258 i) → zI t 258 r = (plo (shp D) (dP D r) (fTc D r) o (dN D r).toNat).2.2 → ((∀ j : Nat, (j : Int) < dN D r → o j = j) → ∀ j : Nat, (j : Int) < dN D r → zI t 266 j = (ploP (shp D) (dP D r) (fTc D r) o j).1 ∧ zI t 267 j = (ploP (shp D) (dP D r) (fTc D r) o j).2) →
      Q (rI (zup (plo (shp D) (dP D r) (fTc D r) o (dN D r).toNat).1 (plo (shp D) (dP D r) (fTc D r) o (dN D r).toNat).2.2)) t) →
    wp S 195 24 [(0, rf 252), (1, iv r), (2, iv (dP D r)), (3, iv (plo (shp D) (dP D r) (fTc D r) o k).1), (4, iv u), (5, iv d), (6, iv (plo (shp D) (dP D r) (fTc D r) o k).2.2), (7, iv k)] [] s Q := by
  obtain ⟨hr, hp, hn8, hfs⟩ := hF
  induction n with
  | zero =>
    intro k s u d hk hm hty ho hu hpos hQ
    have hok := plo_ok (N := shp D) (T := fTc D r) (o := o) hp k fun j hj => by
      have hz := hop j (by omega)
      have hy := hfs (o j) hz.1 hz.2
      exact ⟨hy.2.1, hy.2.2⟩
    have hkn : (dN D r).toNat = k := by omega
    rw [hkn] at hQ
    have ha := zp8_b hok.2.2
    have hb := zup_b (e := (plo (shp D) (dP D r) (fTc D r) o k).1) hok.2.2
    have hd : zI s 253 (1 + 26 * r + 1) = dN D r := hm _ (by omega) (by omega)
    refine v_Model_places_24 ⟨⟨by omega, by omega⟩, ⟨by omega, by omega⟩, fun _ => ⟨hr, ⟨by omega, by omega⟩, ⟨by omega, by omega⟩, by omega, by omega, ?_⟩, fun hc => by omega⟩
    exact hQ _ (frm_I frm_refl (.inr (.inr rfl))) (fun i hi => zI_nj hi) zI_eq fun hid j hj => by
      rw [zI_ne (by omega), zI_ne (by omega)]
      exact hpos hid j (by omega)
  | succ n ihn =>
    intro k s u d hk hm hty ho hu hpos hQ
    have hok := plo_ok (N := shp D) (T := fTc D r) (o := o) hp k fun j hj => by
      have hz := hop j (by omega)
      have hy := hfs (o j) hz.1 hz.2
      exact ⟨hy.2.1, hy.2.2⟩
    have hz := hop k (by omega)
    obtain ⟨hf1, hf2, hf3⟩ := hfs (o k) hz.1 hz.2
    obtain ⟨-, hf4, hf5, hf6⟩ := hf1
    have ht := okT_106 hf4 (by omega)
    have hd : zI s 253 (1 + 26 * r + 1) = dN D r := hm _ (by omega) (by omega)
    have hok2 : zI s 265 k = o k := ho k (by omega)
    have hty2 : zI s 253 (1 + 26 * r + 2 + 3 * zI s 265 k + 1) = dTy D r (o k) := by rw [hok2]; exact hm _ (by omega) (by omega)
    have hal := zp8_b hok.2.2
    have hpb := zp8_b hp
    have hab := zp8_b hf2
    have hzel : zel (dTy D r (o k)) (zI s 258 (dTy D r (o k) - 100)) = tyA (shp D) (dTy D r (o k)) := zel_at fun h => by
      have hi := okT_in hf4 h
      exact (hty _ hi.1 hi.2.1).2
    have hzelB : zel (dTy D r (o k)) (zI s 257 (dTy D r (o k) - 100)) = tyB (shp D) (dTy D r (o k)) := zel_at fun h => by
      have hi := okT_in hf4 h
      exact (hty _ hi.1 hi.2.1).1
    have hcnt : zI s 253 (1 + 26 * r + 2 + 3 * o k + 2) = dCt D r (o k) := hm _ (by omega) (by omega)
    have hz8 := zp8_min hf2 hp
    -- the next place
    have hnext : ∀ al own w : Int, al = (plo (shp D) (dP D r) (fTc D r) o (k + 1)).2.2 → own = min (tyA (shp D) (dTy D r (o k))) (dP D r) → w = zwd (dTy D r (o k)) →
        wp S 195 113 [(0, rf 252), (1, iv r), (2, iv (dP D r)), (3, iv (plo (shp D) (dP D r) (fTc D r) o k).1), (4, iv u), (5, iv d), (6, iv al), (7, iv k), (8, iv (zI s 265 k)), (9, iv (dTy D r (o k))), (11, iv own)] [iv w] s Q := by
      intro al own w hal2 hown hw
      rw [hok2]
      subst hal2 hown
      refine C_places_113 hr (by omega) (by omega) hu hz8 ht hw hcnt hzelB fun u' d' hu' => ?_
      rw [hw] at hu' ⊢
      refine ihn (k + 1) _ u' d' (by omega) ?_ ?_ ?_ hu' ?_ ?_
      · intro j q0 q1
        rw [zI_ne (by omega), zI_ne (by omega)]
        exact hm j q0 q1
      · intro i q0 q1
        rw [zI_ne (by omega), zI_ne (by omega), zI_ne (by omega), zI_ne (by omega)]
        exact hty i q0 q1
      · intro j q
        rw [zI_ne (by omega), zI_ne (by omega)]
        exact ho j q
      · intro hid j hj
        have hkk := hid k (by omega)
        by_cases hjk : j = k
        · subst hjk
          rw [hkk, zI_ne (by omega), zI_eq, zI_eq]
          unfold ploP fTc
          rw [hkk]
          exact ⟨rfl, rfl⟩
        · rw [hkk, zI_ne (by omega), zI_nj (by omega), zI_nj (by omega), zI_ne (by omega)]
          exact hpos hid j (by omega)
      · intro t hf h1 h2 h3
        refine hQ t (frm_trans (frm_I (frm_I frm_refl (.inl rfl)) (.inr (.inl rfl))) hf) (fun i hi => ?_) h2 h3
        rw [h1 i hi, zI_ne (by omega), zI_ne (by omega)]
    refine v_Model_places_24 ⟨⟨by omega, by omega⟩, ⟨by omega, by omega⟩, fun hc => by omega, fun _ => ⟨⟨by omega, by omega⟩, ?_⟩⟩
    rw [hty2, hzel]
    have hbits : (21 ≤ dTy D r (o k) ∧ dTy D r (o k) ≤ 36) → dTy D r (o k) - 20 = zwd (dTy D r (o k)) := fun h => (zwd_pos h).symm
    have hnbits : ¬ (21 ≤ dTy D r (o k) ∧ dTy D r (o k) ≤ 36) → 0 = zwd (dTy D r (o k)) := fun h => (zwd_0 h).symm
    have hal3 : (plo (shp D) (dP D r) (fTc D r) o (k + 1)).2.2 = max (plo (shp D) (dP D r) (fTc D r) o k).2.2 (min (tyA (shp D) (dTy D r (o k))) (dP D r)) := rfl
    refine ⟨⟨by rw [hok2]; omega, by rw [hok2]; omega⟩, ht.2, ⟨by omega, by omega⟩, ⟨by omega, by omega⟩, fun hc => ⟨⟨by omega, by omega⟩, fun hc2 => ⟨fun hb => hnext _ _ _ (by omega) (by omega) (hnbits hb), fun hb => hnext _ _ _ (by omega) (by omega) (hbits hb)⟩, fun hc2 => ⟨fun hb => hnext _ _ _ (by omega) (by omega) (hnbits hb), fun hb => hnext _ _ _ (by omega) (by omega) (hbits hb)⟩⟩,
      fun hc => ⟨⟨by omega, by omega⟩, fun hc2 => ⟨fun hb => hnext _ _ _ (by omega) (by omega) (hnbits hb), fun hb => hnext _ _ _ (by omega) (by omega) (hbits hb)⟩, fun hc2 => ⟨fun hb => hnext _ _ _ (by omega) (by omega) (hnbits hb), fun hb => hnext _ _ _ (by omega) (by omega) (hbits hb)⟩⟩⟩
theorem C_places {D : Int → Int} {r : Int} (hF : okFs D r) {o : Nat → Int} (hop : ∀ k : Nat, (k : Int) < dN D r → 0 ≤ o k ∧ o k < dN D r) {s : zSt} (hm : mD s D) (hty : mTy s (shp D) r) (ho : ∀ j : Nat, (j : Int) < dN D r → zI s 265 j = o j)
    (hQ : ∀ t, frm (fun a => a = 266 ∨ a = 267 ∨ a = 258) s t → (∀ i, i ≠ r → zI t 258 i = zI s 258 i) → zI t 258 r = (plo (shp D) (dP D r) (fTc D r) o (dN D r).toNat).2.2 → ((∀ j : Nat, (j : Int) < dN D r → o j = j) → ∀ j : Nat, (j : Int) < dN D r → zI t 266 j = (ploP (shp D) (dP D r) (fTc D r) o j).1 ∧ zI t 267 j = (ploP (shp D) (dP D r) (fTc D r) o j).2) →
      Q (rI (zup (plo (shp D) (dP D r) (fTc D r) o (dN D r).toNat).1 (plo (shp D) (dP D r) (fTc D r) o (dN D r).toNat).2.2)) t) :
    wp S 195 0 [(0, rf 252), (1, iv r)] [] s Q := by
  have hr := hF.1
  have hpk : zI s 253 (1 + 26 * r) = dP D r := hm _ (by omega) (by omega)
  refine v_Model_places_0 ⟨⟨by omega, by omega⟩, ?_⟩
  rw [hpk]
  exact C_places_24 hF hop (dN D r).toNat 0 s (-1) 0 (by have := hF.2.2.1; omega) hm hty ho ⟨by omega, .inl ⟨rfl, rfl⟩⟩ (fun _ j hj => absurd hj (by omega)) hQ
end MLAY
