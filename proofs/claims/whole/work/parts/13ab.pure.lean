/-! ===== the numbers that the document speaks of ===== -/
/-- a leaf: type, offset, bit, field, path (a letter and a number for each level, the outermost first) -/
abbrev yLf : Type := Int × Int × Int × Int × List (Int × Int)
def lT (l : yLf) : Int := l.1
def lA (l : yLf) : Int := l.2.1
def lB (l : yLf) : Int := l.2.2.1
def lF (l : yLf) : Int := l.2.2.2.1
def lP (l : yLf) : List (Int × Int) := l.2.2.2.2
/-- end, bits left, alignment, bytes covered, leaves, (offset, bit, bytes, alignment) of each field -/
abbrev ySh : Type := Int × Int × Int × Int × List yLf × List (Int × Int × Int × Int)
def gE (G : ySh) : Int := G.1
def gL (G : ySh) : Int := G.2.1
def gW (G : ySh) : Int := G.2.2.1
def gC (G : ySh) : Int := G.2.2.2.1
def gV (G : ySh) : List yLf := G.2.2.2.2.1
def gQ (G : ySh) : List (Int × Int × Int × Int) := G.2.2.2.2.2
def gS (G : ySh) : Int := zup (gE G) (gW G)
def g00 : ySh := (0, 0, 1, 0, [], [])
def zwd (t : Int) : Int := if 21 ≤ t ∧ t ≤ 36 then t - 20 else 0
/-- where a field is placed: offset, bit, end, bits left -/
def gst (own w len e l : Int) : Int × Int × Int × Int :=
  if 0 < w then (if w ≤ l then (e - 2, 16 - l, e, l - w) else (zup e own, 0, zup e own + 2, 16 - w)) else (zup e own, 0, zup e own + len, 0)
def tyB (N : Int → ySh) (t : Int) : Int := zel t (gS (N (t - 100)))
def tyA (N : Int → ySh) (t : Int) : Int := zel t (gW (N (t - 100)))
def tyC (N : Int → ySh) (t : Int) : Int := zel t (gC (N (t - 100)))
def tyL (N : Int → ySh) (t : Int) : Nat := if t < 100 then 1 else (gV (N (t - 100))).length
def zix (c : Int) (el : Nat) : Int := if 1 < c then el + 1 else 0
def lvOf (N : Int → ySh) (nm t c f off bit : Int) (el : Nat) : List yLf :=
  if t < 100 then [(t, off + el * zby t, bit, f, [(nm, zix c el)])]
  else (gV (N (t - 100))).map fun l => (lT l, off + el * gS (N (t - 100)) + lA l, lB l, f, (nm, zix c el) :: lP l)
def lvsOf (N : Int → ySh) (nm t c f off bit : Int) (n : Nat) : List yLf := (List.range n).flatMap (lvOf N nm t c f off bit)
def plc (N : Int → ySh) (pack nm t c : Int) (G : ySh) : ySh :=
  ((gst (min (tyA N t) pack) (zwd t) (c * tyB N t) (gE G) (gL G)).2.2.1, (gst (min (tyA N t) pack) (zwd t) (c * tyB N t) (gE G) (gL G)).2.2.2, max (gW G) (min (tyA N t) pack),
   gC G + (if 0 < zwd t then (if zwd t ≤ gL G then 0 else 2) else c * tyC N t),
   gV G ++ lvsOf N nm t c (gQ G).length (gst (min (tyA N t) pack) (zwd t) (c * tyB N t) (gE G) (gL G)).1 (gst (min (tyA N t) pack) (zwd t) (c * tyB N t) (gE G) (gL G)).2.1 c.toNat,
   gQ G ++ [((gst (min (tyA N t) pack) (zwd t) (c * tyB N t) (gE G) (gL G)).1, (gst (min (tyA N t) pack) (zwd t) (c * tyB N t) (gE G) (gL G)).2.1, tyB N t, min (tyA N t) pack)])
def gN (N : Int → ySh) (pack : Int) (F : Nat → Int × Int × Int) : Nat → ySh
  | 0 => g00
  | k + 1 => plc N pack (F k).1 (F k).2.1 (F k).2.2 (gN N pack F k)
/-- the row of numbers: pack, fields, names, types, counts -/
def dP (D : Int → Int) (r : Int) : Int := D (1 + 26 * r)
def dN (D : Int → Int) (r : Int) : Int := D (1 + 26 * r + 1)
def dNm (D : Int → Int) (r f : Int) : Int := D (1 + 26 * r + 2 + 3 * f)
def dTy (D : Int → Int) (r f : Int) : Int := D (1 + 26 * r + 2 + 3 * f + 1)
def dCt (D : Int → Int) (r f : Int) : Int := D (1 + 26 * r + 2 + 3 * f + 2)
def dFd (D : Int → Int) (r : Int) (f : Nat) : Int × Int × Int := (dNm D r f, dTy D r f, dCt D r f)
def shT (D : Int → Int) : Nat → Int → ySh
  | 0 => fun _ => g00
  | n + 1 => fun i => if i = n then gN (shT D n) (dP D n) (dFd D n) (dN D n).toNat else shT D n i
def shp (D : Int → Int) (r : Int) : ySh := shT D (r.toNat + 1) r
theorem shT_lt (D : Int → Int) (n : Nat) : ∀ r : Int, 0 ≤ r → r < n → shT D n r = shp D r := by
  induction n with
  | zero => intro r h0 h1; omega
  | succ n ihn =>
    intro r h0 h1
    by_cases hc : r = n
    · subst hc
      unfold shp
      rw [Int.toNat_natCast]
    · show (if r = n then _ else shT D n r) = _
      rw [if_neg hc]
      exact ihn r h0 (by omega)
theorem shp_def (D : Int → Int) (n : Nat) : shp D n = gN (shT D n) (dP D n) (dFd D n) (dN D n).toNat := by
  unfold shp
  rw [Int.toNat_natCast]
  show (if (n : Int) = n then _ else _) = _
  rw [if_pos rfl]
def zp8 (x : Int) : Prop := x = 1 ∨ x = 2 ∨ x = 4 ∨ x = 8
def okT (D : Int → Int) (r t : Int) : Prop := (0 ≤ t ∧ t ≤ 7) ∨ (21 ≤ t ∧ t ≤ 36) ∨ (100 ≤ t ∧ t ≤ 99 + r ∧ 0 < dN D (t - 100))
def okF (D : Int → Int) (r f : Int) : Prop := (97 ≤ dNm D r f ∧ dNm D r f ≤ 122) ∧ okT D r (dTy D r f) ∧ (1 ≤ dCt D r f ∧ dCt D r f ≤ 4) ∧ (21 ≤ dTy D r f → dTy D r f ≤ 36 → dCt D r f = 1)
def okR (D : Int → Int) (r : Int) : Prop := zp8 (dP D r) ∧ (0 ≤ dN D r ∧ dN D r ≤ 8) ∧ (∀ f, 0 ≤ f → f < dN D r → okF D r f) ∧ (gV (shp D r)).length ≤ 40
def okD (D : Int → Int) : Prop := (0 ≤ D 0 ∧ D 0 ≤ 6) ∧ ∀ r, 0 ≤ r → r < D 0 → okR D r
theorem plc_congr {N N' : Int → ySh} {pack nm t c : Int} {G : ySh} (hc : 100 ≤ t → N (t - 100) = N' (t - 100)) : plc N pack nm t c G = plc N' pack nm t c G := by
  by_cases ht : t < 100
  · unfold plc tyB tyA tyC zel lvsOf lvOf
    simp only [if_pos ht]
  · unfold plc tyB tyA tyC lvsOf lvOf
    rw [hc (by omega)]
theorem gN_congr {N N' : Int → ySh} {pack : Int} {F F' : Nat → Int × Int × Int} : ∀ n : Nat, (∀ k, k < n → F k = F' k ∧ (100 ≤ (F k).2.1 → N ((F k).2.1 - 100) = N' ((F k).2.1 - 100))) → gN N pack F n = gN N' pack F' n := by
  intro n
  induction n with
  | zero => intro _; rfl
  | succ n ihn =>
    intro hk
    show plc N pack _ _ _ (gN N pack F n) = plc N' pack _ _ _ (gN N' pack F' n)
    rw [← (hk n (by omega)).1, ihn (fun k h => hk k (by omega)), plc_congr (hk n (by omega)).2]
theorem okT_in {D : Int → Int} {r t : Int} (h : okT D r t) (ht : 100 ≤ t) : 0 ≤ t - 100 ∧ t - 100 < r ∧ 0 < dN D (t - 100) := by
  rcases h with h | h | h <;> omega
theorem okT_106 {D : Int → Int} {r t : Int} (h : okT D r t) (hr : r < 7) : 0 ≤ t ∧ t < 106 := by
  rcases h with h | h | h <;> omega
theorem shp_eq {D : Int → Int} {r : Int} (h0 : 0 ≤ r) (hv : ∀ f, 0 ≤ f → f < dN D r → okT D r (dTy D r f)) : shp D r = gN (shp D) (dP D r) (dFd D r) (dN D r).toNat := by
  obtain ⟨n, rfl⟩ : ∃ n : Nat, r = n := ⟨r.toNat, by omega⟩
  rw [shp_def]
  refine gN_congr _ fun k hk => ⟨rfl, fun ht => ?_⟩
  have hz := okT_in (hv k (by omega) (by omega)) ht
  exact shT_lt D n _ hz.1 hz.2.1
/-- shapes of rows that agree on the records -/
theorem shp_agree {D D' : Int → Int} : ∀ n : Nat, (∀ r : Int, 0 ≤ r → r ≤ n → dP D' r = dP D r ∧ dN D' r = dN D r ∧ ∀ f, 0 ≤ f → f < dN D r → dNm D' r f = dNm D r f ∧ dTy D' r f = dTy D r f ∧ dCt D' r f = dCt D r f) → (∀ r : Int, 0 ≤ r → r ≤ n → ∀ f, 0 ≤ f → f < dN D r → okT D r (dTy D r f)) → ∀ r : Int, 0 ≤ r → r ≤ n → shp D' r = shp D r := by
  intro n
  induction n with
  | zero =>
    intro ha hv r h0 h1
    have hr : r = 0 := by omega
    subst hr
    obtain ⟨a1, a2, a3⟩ := ha 0 (by omega) (by omega)
    have hv' : ∀ f, 0 ≤ f → f < dN D' 0 → okT D' 0 (dTy D' 0 f) := fun f q0 q1 => by
      rw [(a3 f q0 (by omega)).2.1]
      rcases hv 0 (by omega) (by omega) f q0 (by omega) with h | h | h
      · exact .inl h
      · exact .inr (.inl h)
      · omega
    rw [shp_eq (by omega) hv', shp_eq (by omega) (hv 0 (by omega) (by omega)), a1, a2]
    refine gN_congr _ fun k hk => ⟨?_, fun ht => ?_⟩
    · unfold dFd
      rw [(a3 k (by omega) (by omega)).1, (a3 k (by omega) (by omega)).2.1, (a3 k (by omega) (by omega)).2.2]
    · have hz := okT_in (hv' k (by omega) (by omega)) ht
      omega
  | succ n ihn =>
    intro ha hv r h0 h1
    by_cases hc : r ≤ n
    · exact ihn (fun r q0 q1 => ha r q0 (by omega)) (fun r q0 q1 => hv r q0 (by omega)) r h0 hc
    · obtain ⟨a1, a2, a3⟩ := ha r h0 h1
      have hv' : ∀ f, 0 ≤ f → f < dN D' r → okT D' r (dTy D' r f) := fun f q0 q1 => by
        rw [(a3 f q0 (by omega)).2.1]
        rcases hv r h0 h1 f q0 (by omega) with h | h | h
        · exact .inl h
        · exact .inr (.inl h)
        · exact .inr (.inr ⟨h.1, h.2.1, by rw [(ha _ (by omega) (by omega)).2.1]; exact h.2.2⟩)
      rw [shp_eq h0 hv', shp_eq h0 (hv r h0 h1), a1, a2]
      refine gN_congr _ fun k hk => ⟨?_, fun ht => ?_⟩
      · unfold dFd
        rw [(a3 k (by omega) (by omega)).1, (a3 k (by omega) (by omega)).2.1, (a3 k (by omega) (by omega)).2.2]
      · have hz := okT_in (hv' k (by omega) (by omega)) ht
        show shp D' (dTy D' r k - 100) = shp D (dTy D' r k - 100)
        exact ihn (fun r q0 q1 => ha r q0 (by omega)) (fun r q0 q1 => hv r q0 (by omega)) _ (by omega) (by omega)
/-! ===== how large all is ===== -/
theorem zp8_zp2 {x : Int} (h : zp8 x) : zp2 x := by
  rcases h with h | h | h | h
  · exact .inl h
  · exact .inr (.inl h)
  · exact .inr (.inr (.inl h))
  · exact .inr (.inr (.inr (.inl h)))
theorem zup_b {e t : Int} (h : zp8 t) : e ≤ zup e t ∧ zup e t < e + t := by
  unfold zup
  rcases h with rfl | rfl | rfl | rfl <;> omega
theorem zup_dv {e t : Int} (h : zp8 t) : zup e t % t = 0 := by
  unfold zup
  rcases h with rfl | rfl | rfl | rfl <;> omega
theorem zup_8 {e t : Int} {n : Int} (h : zp8 t) (he : e ≤ 8 * n) : zup e t ≤ 8 * n := by
  unfold zup
  rcases h with rfl | rfl | rfl | rfl <;> omega
theorem zby_8 (t : Int) : zp8 (zby t) := by
  unfold zby zp8
  split
  · omega
  split
  · omega
  split
  · omega
  split
  · omega
  split
  · omega
  split
  · omega
  · omega
theorem zp8_min {a b : Int} (ha : zp8 a) (hb : zp8 b) : zp8 (min a b) := by
  rcases Int.le_total a b with h | h
  · rw [Int.min_eq_left h]; exact ha
  · rw [Int.min_eq_right h]; exact hb
theorem zp8_max {a b : Int} (ha : zp8 a) (hb : zp8 b) : zp8 (max a b) := by
  rcases Int.le_total a b with h | h
  · rw [Int.max_eq_right h]; exact hb
  · rw [Int.max_eq_left h]; exact ha
theorem zp8_b {a : Int} (h : zp8 a) : 1 ≤ a ∧ a ≤ 8 := by rcases h with h | h | h | h <;> omega
def gOK (G : ySh) : Prop := (0 ≤ gE G ∧ gE G ≤ 8 * ((gV G).length : Int)) ∧ zp8 (gW G) ∧ (0 ≤ gL G ∧ gL G ≤ 16 ∧ (0 < gL G → 2 ≤ gE G)) ∧ (0 ≤ gC G ∧ gC G ≤ 8 * ((gV G).length : Int))
theorem lvOf_len (N : Int → ySh) (nm t c f off bit : Int) (el : Nat) : (lvOf N nm t c f off bit el).length = tyL N t := by
  unfold lvOf tyL
  split
  · rfl
  · rw [List.length_map]
theorem lvsOf_len (N : Int → ySh) (nm t c f off bit : Int) (n : Nat) : (lvsOf N nm t c f off bit n).length = n * tyL N t := by
  unfold lvsOf
  induction n with
  | zero => simp
  | succ n ihn =>
    rw [List.range_succ, List.flatMap_append, List.length_append, ihn]
    simp [lvOf_len, Nat.succ_mul]
theorem lvsOf_succ (N : Int → ySh) (nm t c f off bit : Int) (n : Nat) : lvsOf N nm t c f off bit (n + 1) = lvsOf N nm t c f off bit n ++ lvOf N nm t c f off bit n := by
  unfold lvsOf
  rw [List.range_succ, List.flatMap_append]
  simp
theorem plc_len (N : Int → ySh) (pack nm t c : Int) (G : ySh) : (gV (plc N pack nm t c G)).length = (gV G).length + c.toNat * tyL N t := by
  show (gV G ++ lvsOf _ _ _ _ _ _ _ _).length = _
  rw [List.length_append, lvsOf_len]
theorem gQ_plc (N : Int → ySh) (pack nm t c : Int) (G : ySh) : (gQ (plc N pack nm t c G)).length = (gQ G).length + 1 := by
  show (gQ G ++ [_]).length = _
  rw [List.length_append]; rfl
theorem gQ_len (N : Int → ySh) (pack : Int) (F : Nat → Int × Int × Int) (n : Nat) : (gQ (gN N pack F n)).length = n := by
  induction n with
  | zero => rfl
  | succ n ihn => show (gQ (plc _ _ _ _ _ _)).length = _; rw [gQ_plc, ihn]
theorem gst_b {own w len e l n m : Int} (ho : zp8 own) (h0 : 0 ≤ e) (h1 : e ≤ 8 * n) (hl : 0 ≤ l ∧ l ≤ 16 ∧ (0 < l → 2 ≤ e)) (hw : 0 ≤ w ∧ w ≤ 16) (hlen : 0 ≤ len ∧ len ≤ 8 * m) (hm : 1 ≤ m) :
    (0 ≤ (gst own w len e l).1 ∧ (gst own w len e l).1 ≤ 8 * n) ∧ (0 ≤ (gst own w len e l).2.1 ∧ (gst own w len e l).2.1 ≤ 16) ∧ (0 ≤ (gst own w len e l).2.2.1 ∧ (gst own w len e l).2.2.1 ≤ 8 * (n + m)) ∧ (0 ≤ (gst own w len e l).2.2.2 ∧ (gst own w len e l).2.2.2 ≤ 16 ∧ (0 < (gst own w len e l).2.2.2 → 2 ≤ (gst own w len e l).2.2.1)) := by
  have hz := zup_8 (n := n) ho h1
  have hb := zup_b (e := e) ho
  unfold gst
  split
  · split
    · refine ⟨⟨?_, ?_⟩, ⟨?_, ?_⟩, ⟨?_, ?_⟩, ?_, ?_, ?_⟩ <;> dsimp only <;> omega
    · refine ⟨⟨?_, ?_⟩, ⟨?_, ?_⟩, ⟨?_, ?_⟩, ?_, ?_, ?_⟩ <;> dsimp only <;> omega
  · refine ⟨⟨?_, ?_⟩, ⟨?_, ?_⟩, ⟨?_, ?_⟩, ?_, ?_, ?_⟩ <;> dsimp only <;> omega
theorem zwd_b (t : Int) : 0 ≤ zwd t ∧ zwd t ≤ 16 := by
  unfold zwd
  split <;> omega
theorem ty_ok {N : Int → ySh} {t : Int} (hN : 100 ≤ t → gOK (N (t - 100)) ∧ 1 ≤ (gV (N (t - 100))).length) :
    zp8 (tyA N t) ∧ (0 ≤ tyB N t ∧ tyB N t ≤ 8 * (tyL N t : Int)) ∧ (0 ≤ tyC N t ∧ tyC N t ≤ 8 * (tyL N t : Int)) ∧ 1 ≤ tyL N t := by
  by_cases ht : t < 100
  · unfold tyA tyB tyC tyL zel
    have hz := zp8_b (zby_8 t)
    simp only [if_pos ht]
    exact ⟨zby_8 t, by omega, by omega, by omega⟩
  · obtain ⟨⟨g1, g2, g3, g4⟩, g5⟩ := hN (by omega)
    have hz := zup_8 g2 g1.2
    have hy := zup_b (e := gE (N (t - 100))) g2
    unfold tyA tyB tyC tyL zel gS
    simp only [if_neg ht]
    exact ⟨g2, by omega, by omega, by omega⟩
theorem plc_ok {N : Int → ySh} {pack nm t c : Int} {G : ySh} (hG : gOK G) (hN : 100 ≤ t → gOK (N (t - 100)) ∧ 1 ≤ (gV (N (t - 100))).length) (hp : zp8 pack) (hc : 1 ≤ c ∧ c ≤ 4) (hb : 21 ≤ t → t ≤ 36 → c = 1) : gOK (plc N pack nm t c G) := by
  obtain ⟨t1, t2, t3, t4⟩ := ty_ok hN
  obtain ⟨g1, g2, g3, g4⟩ := hG
  have hl := plc_len N pack nm t c G
  have hm : (c.toNat * tyL N t : Nat) = ((c.toNat * tyL N t : Nat) : Int) := rfl
  obtain ⟨m, hmm⟩ : ∃ m : Int, m = ((c.toNat * tyL N t : Nat) : Int) := ⟨_, rfl⟩
  have h1 : c * tyB N t ≤ 8 * m := by
    rw [hmm, Int.natCast_mul, Int.toNat_of_nonneg (by omega), ← Int.mul_assoc, Int.mul_comm 8 c, Int.mul_assoc]
    exact Int.mul_le_mul_of_nonneg_left t2.2 (by omega)
  have h2 : c * tyC N t ≤ 8 * m := by
    rw [hmm, Int.natCast_mul, Int.toNat_of_nonneg (by omega), ← Int.mul_assoc, Int.mul_comm 8 c, Int.mul_assoc]
    exact Int.mul_le_mul_of_nonneg_left t3.2 (by omega)
  have h3 : 1 ≤ m := by
    have h4 : 1 * 1 ≤ c.toNat * tyL N t := Nat.mul_le_mul (by omega) t4
    omega
  have hlen : ((gV (plc N pack nm t c G)).length : Int) = (gV G).length + m := by rw [hl, hmm]; exact Int.natCast_add _ _
  have hst := gst_b (own := min (tyA N t) pack) (w := zwd t) (len := c * tyB N t) (e := gE G) (l := gL G) (m := m) (zp8_min t1 hp) g1.1 g1.2 g3 (zwd_b t) ⟨Int.mul_nonneg (by omega) t2.1, h1⟩ h3
  unfold gOK
  rw [hlen]
  refine ⟨hst.2.2.1, zp8_max g2 (zp8_min t1 hp), hst.2.2.2, ?_⟩
  show 0 ≤ gC G + _ ∧ gC G + _ ≤ _
  have h5 : 0 ≤ c * tyC N t := Int.mul_nonneg (by omega) t3.1
  split
  · split <;> omega
  · omega
theorem gN_ok {N : Int → ySh} {pack : Int} {F : Nat → Int × Int × Int} (hp : zp8 pack) : ∀ n : Nat, (∀ k, k < n → (100 ≤ (F k).2.1 → gOK (N ((F k).2.1 - 100)) ∧ 1 ≤ (gV (N ((F k).2.1 - 100))).length) ∧ (1 ≤ (F k).2.2 ∧ (F k).2.2 ≤ 4) ∧ (21 ≤ (F k).2.1 → (F k).2.1 ≤ 36 → (F k).2.2 = 1)) → gOK (gN N pack F n) ∧ (1 ≤ n → 1 ≤ (gV (gN N pack F n)).length) := by
  intro n
  induction n with
  | zero =>
    intro _
    show gOK g00 ∧ (1 ≤ 0 → _)
    exact ⟨⟨⟨by decide, by decide⟩, .inl rfl, ⟨by decide, by decide, fun h => absurd h (by decide)⟩, by decide, by decide⟩, fun h => absurd h (by decide)⟩
  | succ n ihn =>
    intro hk
    obtain ⟨i1, i2⟩ := ihn fun k h => hk k (by omega)
    obtain ⟨k1, k2, k3⟩ := hk n (by omega)
    refine ⟨plc_ok i1 k1 hp k2 k3, fun _ => ?_⟩
    show 1 ≤ (gV (plc _ _ _ _ _ _)).length
    rw [plc_len]
    have h4 : 1 * 1 ≤ (F n).2.2.toNat * tyL N (F n).2.1 := Nat.mul_le_mul (by omega) (ty_ok k1).2.2.2
    omega
theorem shp_ok {D : Int → Int} (hD : okD D) : ∀ n : Nat, ∀ r : Int, r = n → r < D 0 → gOK (shp D r) ∧ (0 < dN D r → 1 ≤ (gV (shp D r)).length) := by
  intro n
  induction n using Nat.strongRecOn with
  | ind n ihn =>
    intro r hr h1
    obtain ⟨o1, o2, o3, -⟩ := hD.2 r (by omega) h1
    rw [shp_eq (by omega) fun f q0 q1 => (o3 f q0 q1).2.1]
    have hg := gN_ok (N := shp D) (F := dFd D r) o1 (dN D r).toNat fun k hk => by
      obtain ⟨f1, f2, f3, f4⟩ := o3 k (by omega) (by omega)
      refine ⟨fun ht => ?_, f3, f4⟩
      have hz := okT_in f2 ht
      have hi := ihn (dTy D r k - 100).toNat (by omega) (dTy D r k - 100) (by omega) (by omega)
      exact ⟨hi.1, hi.2 hz.2.2⟩
    exact ⟨hg.1, fun h => hg.2 (by omega)⟩
theorem shp_OK {D : Int → Int} (hD : okD D) {r : Int} (h0 : 0 ≤ r) (h1 : r < D 0) : gOK (shp D r) ∧ (0 < dN D r → 1 ≤ (gV (shp D r)).length) ∧ (gV (shp D r)).length ≤ 40 :=
  ⟨(shp_ok hD r.toNat r (by omega) h1).1, (shp_ok hD r.toNat r (by omega) h1).2, (hD.2 r h0 h1).2.2.2⟩
