/-! ===== texts that define a record ===== -/
def ltr (T : List Int) (k : Nat) : Int := if k < T.length then T.getD k 0 else -1
theorem ltr_b {T : List Int} (hT : okTx T) (k : Nat) : -1 ≤ ltr T k ∧ ltr T k ≤ 127 := by
  unfold ltr
  split
  · next h => have := hT.2 k h; omega
  · omega
theorem ltr_in {T : List Int} {k : Nat} (h : 0 ≤ ltr T k) : k < T.length := by
  unfold ltr at h
  split at h
  · assumption
  · omega
/-- the size of an integer type: where it fails (or -1), the type, where it goes on -/
def rsP (T : List Int) (k : Nat) (u : Int) : Int × Int × Nat :=
  if ltr T (k + 1) = 56 then (-1, u, k + 2)
  else if ltr T (k + 1) = 49 then (if ltr T (k + 2) = 54 then (-1, 2 + u, k + 3) else ((k : Int) + 2, 0, 0))
  else if ltr T (k + 1) = 51 then (if ltr T (k + 2) = 50 then (-1, 4 + u, k + 3) else ((k : Int) + 2, 0, 0))
  else if ltr T (k + 1) = 54 ∧ u = 0 then (if ltr T (k + 2) = 52 then (-1, 6, k + 3) else ((k : Int) + 2, 0, 0))
  else ((k : Int) + 1, 0, 0)
def rrP (D : Int → Int) (T : List Int) (k : Nat) : Int × Int × Nat :=
  if (48 ≤ ltr T (k + 1) ∧ ltr T (k + 1) ≤ 57) ∧ ltr T (k + 1) - 48 < D 0 ∧ 0 < dN D (ltr T (k + 1) - 48) then (-1, 100 + (ltr T (k + 1) - 48), k + 2) else ((k : Int) + 1, 0, 0)
def rwP (T : List Int) (k : Nat) : Int × Int × Nat :=
  if 49 ≤ ltr T (k + 1) ∧ ltr T (k + 1) ≤ 57 then
    (if 48 ≤ ltr T (k + 2) ∧ ltr T (k + 2) ≤ 57 then
      (if 10 * (ltr T (k + 1) - 48) + (ltr T (k + 2) - 48) ≤ 16 then (-1, 20 + (10 * (ltr T (k + 1) - 48) + (ltr T (k + 2) - 48)), k + 3) else ((k : Int) + 2, 0, 0))
    else (-1, 20 + (ltr T (k + 1) - 48), k + 2))
  else ((k : Int) + 1, 0, 0)
def rtP (D : Int → Int) (T : List Int) (k : Nat) : Int × Int × Nat :=
  if ltr T k = 98 then (-1, 7, k + 1)
  else if ltr T k = 105 then rsP T k 0
  else if ltr T k = 117 then rsP T k 1
  else if ltr T k = 35 then rrP D T k
  else if ltr T k = 37 then rwP T k
  else ((k : Int), 0, 0)
def rcP (T : List Int) (ty : Int) (k : Nat) : Int × Int × Nat :=
  if ltr T k = 91 ∧ ¬ (21 ≤ ty ∧ ty ≤ 36) then
    (if 49 ≤ ltr T (k + 1) ∧ ltr T (k + 1) ≤ 52 then (if ltr T (k + 2) = 93 then (-1, ltr T (k + 1) - 48, k + 3) else ((k : Int) + 2, 0, 0)) else ((k : Int) + 1, 0, 0))
  else (-1, 1, k)
abbrev yFr : Type := Int × List (Int × Int × Int) × Int × Nat
def rf4 (D : Int → Int) (T : List Int) (F : List (Int × Int × Int)) (n c ty : Int) (z : Int × Int × Nat) : yFr :=
  if z.1 = -1 then (if ltr T z.2.2 = 59 ∧ n + z.2.1 * (tyL (shp D) ty : Int) ≤ 40 then (-1, F ++ [(c, ty, z.2.1)], n + z.2.1 * (tyL (shp D) ty : Int), z.2.2 + 1) else ((z.2.2 : Int), [], 0, 0)) else (z.1, [], 0, 0)
def rf3 (D : Int → Int) (T : List Int) (F : List (Int × Int × Int)) (n c : Int) (z : Int × Int × Nat) : yFr :=
  if z.1 = -1 then rf4 D T F n c z.2.1 (rcP T z.2.1 z.2.2) else (z.1, [], 0, 0)
def nmP (F : List (Int × Int × Int)) (c : Int) : Prop := (97 ≤ c ∧ c ≤ 122) ∧ F.length < 8 ∧ ∀ i : Nat, i < F.length → (F.getD i (0, 0, 0)).1 ≠ c
noncomputable def rfP (D : Int → Int) (T : List Int) (F : List (Int × Int × Int)) (n : Int) (k : Nat) : yFr :=
  @ite yFr (nmP F (ltr T k)) (Classical.propDecidable _) (if ltr T (k + 1) = 58 then rf3 D T F n (ltr T k) (rtP D T (k + 2)) else ((k : Int) + 1, [], 0, 0)) ((k : Int), [], 0, 0)
/-- the whole text: where it fails (or -1), and the fields -/
noncomputable def rdP (D : Int → Int) (T : List Int) : Nat → List (Int × Int × Int) → Int → Nat → Int × List (Int × Int × Int)
  | 0, _, _, k => ((k : Int), [])
  | m + 1, F, n, k => if (rfP D T F n k).1 = -1 then (if (rfP D T F n k).2.2.2 < T.length then rdP D T m (rfP D T F n k).2.1 (rfP D T F n k).2.2.1 (rfP D T F n k).2.2.2 else (-1, (rfP D T F n k).2.1)) else ((rfP D T F n k).1, [])
/-! what is known of what was read -/
def okTy (D : Int → Int) (t : Int) : Prop := (0 ≤ t ∧ t ≤ 7) ∨ (21 ≤ t ∧ t ≤ 36) ∨ (100 ≤ t ∧ t - 100 < D 0 ∧ 0 < dN D (t - 100))
def okPr (k w : Nat) (T : List Int) (z : Int × Int × Nat) : Prop := (z.1 = -1 ∧ k ≤ z.2.2 ∧ z.2.2 ≤ k + w ∧ z.2.2 ≤ max k T.length) ∨ ((k : Int) ≤ z.1 ∧ z.1 ≤ k + w)
theorem rsP_ok {T : List Int} {k : Nat} {u : Int} (hu : u = 0 ∨ u = 1) : okPr k 3 T (rsP T k u) ∧ ((rsP T k u).1 = -1 → 0 ≤ (rsP T k u).2.1 ∧ (rsP T k u).2.1 ≤ 7) := by
  unfold rsP okPr
  split
  · next h => have := ltr_in (T := T) (k := k + 1) (by omega); exact ⟨.inl ⟨rfl, by show k ≤ k + 2; omega, by show k + 2 ≤ k + 3; omega, by show k + 2 ≤ max k T.length; omega⟩, fun _ => by show 0 ≤ u ∧ u ≤ 7; omega⟩
  · split
    · split
      · next h => have := ltr_in (T := T) (k := k + 2) (by omega); exact ⟨.inl ⟨rfl, by show k ≤ k + 3; omega, by show k + 3 ≤ k + 3; omega, by show k + 3 ≤ max k T.length; omega⟩, fun _ => by show 0 ≤ 2 + u ∧ 2 + u ≤ 7; omega⟩
      · exact ⟨.inr ⟨by show (k : Int) ≤ k + 2; omega, by show (k : Int) + 2 ≤ k + 3; omega⟩, fun hc => by have hc : (k : Int) + 2 = -1 := hc; omega⟩
    · split
      · split
        · next h => have := ltr_in (T := T) (k := k + 2) (by omega); exact ⟨.inl ⟨rfl, by show k ≤ k + 3; omega, by show k + 3 ≤ k + 3; omega, by show k + 3 ≤ max k T.length; omega⟩, fun _ => by show 0 ≤ 4 + u ∧ 4 + u ≤ 7; omega⟩
        · exact ⟨.inr ⟨by show (k : Int) ≤ k + 2; omega, by show (k : Int) + 2 ≤ k + 3; omega⟩, fun hc => by have hc : (k : Int) + 2 = -1 := hc; omega⟩
      · split
        · split
          · next h => have := ltr_in (T := T) (k := k + 2) (by omega); exact ⟨.inl ⟨rfl, by show k ≤ k + 3; omega, by show k + 3 ≤ k + 3; omega, by show k + 3 ≤ max k T.length; omega⟩, fun _ => by show (0 : Int) ≤ 6 ∧ (6 : Int) ≤ 7; omega⟩
          · exact ⟨.inr ⟨by show (k : Int) ≤ k + 2; omega, by show (k : Int) + 2 ≤ k + 3; omega⟩, fun hc => by have hc : (k : Int) + 2 = -1 := hc; omega⟩
        · exact ⟨.inr ⟨by show (k : Int) ≤ k + 1; omega, by show (k : Int) + 1 ≤ k + 3; omega⟩, fun hc => by have hc : (k : Int) + 1 = -1 := hc; omega⟩
theorem rtP_ok {D : Int → Int} {T : List Int} {k : Nat} : okPr k 3 T (rtP D T k) ∧ ((rtP D T k).1 = -1 → okTy D (rtP D T k).2.1) := by
  unfold rtP
  split
  · next h => have := ltr_in (T := T) (k := k) (by omega); exact ⟨.inl ⟨rfl, by show k ≤ k + 1; omega, by show k + 1 ≤ k + 3; omega, by show k + 1 ≤ max k T.length; omega⟩, fun _ => .inl (by show (0 : Int) ≤ 7 ∧ (7 : Int) ≤ 7; omega)⟩
  · split
    · have hz := rsP_ok (T := T) (k := k) (u := 0) (.inl rfl)
      exact ⟨hz.1, fun h => .inl (hz.2 h)⟩
    · split
      · have hz := rsP_ok (T := T) (k := k) (u := 1) (.inr rfl)
        exact ⟨hz.1, fun h => .inl (hz.2 h)⟩
      · split
        · unfold rrP
          split
          · next h => have := ltr_in (T := T) (k := k + 1) (by omega); exact ⟨.inl ⟨rfl, by show k ≤ k + 2; omega, by show k + 2 ≤ k + 3; omega, by show k + 2 ≤ max k T.length; omega⟩, fun _ => .inr (.inr ⟨by show 100 ≤ 100 + (ltr T (k + 1) - 48); omega, by show 100 + (ltr T (k + 1) - 48) - 100 < D 0; omega, by show 0 < dN D (100 + (ltr T (k + 1) - 48) - 100); rw [show 100 + (ltr T (k + 1) - 48) - 100 = ltr T (k + 1) - 48 by omega]; exact h.2.2⟩)⟩
          · exact ⟨.inr ⟨by show (k : Int) ≤ k + 1; omega, by show (k : Int) + 1 ≤ k + 3; omega⟩, fun hc => by have hc : (k : Int) + 1 = -1 := hc; omega⟩
        · split
          · unfold rwP
            split
            · split
              · split
                · have := ltr_in (T := T) (k := k + 2) (by omega); exact ⟨.inl ⟨rfl, by show k ≤ k + 3; omega, by show k + 3 ≤ k + 3; omega, by show k + 3 ≤ max k T.length; omega⟩, fun _ => .inr (.inl (by show 21 ≤ 20 + (10 * (ltr T (k + 1) - 48) + (ltr T (k + 2) - 48)) ∧ 20 + (10 * (ltr T (k + 1) - 48) + (ltr T (k + 2) - 48)) ≤ 36; omega))⟩
                · exact ⟨.inr ⟨by show (k : Int) ≤ k + 2; omega, by show (k : Int) + 2 ≤ k + 3; omega⟩, fun hc => by have hc : (k : Int) + 2 = -1 := hc; omega⟩
              · have := ltr_in (T := T) (k := k + 1) (by omega); exact ⟨.inl ⟨rfl, by show k ≤ k + 2; omega, by show k + 2 ≤ k + 3; omega, by show k + 2 ≤ max k T.length; omega⟩, fun _ => .inr (.inl (by show 21 ≤ 20 + (ltr T (k + 1) - 48) ∧ 20 + (ltr T (k + 1) - 48) ≤ 36; omega))⟩
            · exact ⟨.inr ⟨by show (k : Int) ≤ k + 1; omega, by show (k : Int) + 1 ≤ k + 3; omega⟩, fun hc => by have hc : (k : Int) + 1 = -1 := hc; omega⟩
          · exact ⟨.inr ⟨by show (k : Int) ≤ k; omega, by show (k : Int) ≤ k + 3; omega⟩, fun hc => by have hc : (k : Int) = -1 := hc; omega⟩
theorem rcP_ok {T : List Int} {ty : Int} {k : Nat} : okPr k 3 T (rcP T ty k) ∧ ((rcP T ty k).1 = -1 → (1 ≤ (rcP T ty k).2.1 ∧ (rcP T ty k).2.1 ≤ 4) ∧ (21 ≤ ty → ty ≤ 36 → (rcP T ty k).2.1 = 1)) := by
  unfold rcP
  split
  · next h =>
    split
    · split
      · have := ltr_in (T := T) (k := k + 2) (by omega); exact ⟨.inl ⟨rfl, by show k ≤ k + 3; omega, by show k + 3 ≤ k + 3; omega, by show k + 3 ≤ max k T.length; omega⟩, fun _ => ⟨by show 1 ≤ ltr T (k + 1) - 48 ∧ ltr T (k + 1) - 48 ≤ 4; omega, fun h1 h2 => absurd ⟨h1, h2⟩ h.2⟩⟩
      · exact ⟨.inr ⟨by show (k : Int) ≤ k + 2; omega, by show (k : Int) + 2 ≤ k + 3; omega⟩, fun hc => by have hc : (k : Int) + 2 = -1 := hc; omega⟩
    · exact ⟨.inr ⟨by show (k : Int) ≤ k + 1; omega, by show (k : Int) + 1 ≤ k + 3; omega⟩, fun hc => by have hc : (k : Int) + 1 = -1 := hc; omega⟩
  · exact ⟨.inl ⟨rfl, Nat.le_refl k, by show k ≤ k + 3; omega, by show k ≤ max k T.length; omega⟩, fun _ => ⟨by show (1 : Int) ≤ 1 ∧ (1 : Int) ≤ 4; omega, fun _ _ => rfl⟩⟩
theorem okTy_L {D : Int → Int} {t : Int} (hD : okD D) (h : okTy D t) : 1 ≤ tyL (shp D) t ∧ tyL (shp D) t ≤ 40 := by
  unfold tyL
  split
  · omega
  · have h3 : 100 ≤ t ∧ t - 100 < D 0 ∧ 0 < dN D (t - 100) := by rcases h with h | h | h <;> omega
    have ho := shp_OK hD (r := t - 100) (by omega) h3.2.1
    exact ⟨ho.2.1 h3.2.2, ho.2.2⟩
/-- the leaves of fields -/
def smF (D : Int → Int) (F : Nat → Int × Int × Int) : Nat → Int
  | 0 => 0
  | i + 1 => smF D F i + (F i).2.2 * (tyL (shp D) (F i).2.1 : Int)
abbrev fD (F : List (Int × Int × Int)) (i : Nat) : Int × Int × Int := F.getD i (0, 0, 0)
def fsI (D : Int → Int) (F : List (Int × Int × Int)) (n : Int) : Prop := F.length ≤ 8 ∧ (∀ i : Nat, i < F.length → (97 ≤ (fD F i).1 ∧ (fD F i).1 ≤ 122) ∧ okTy D (fD F i).2.1 ∧ (1 ≤ (fD F i).2.2 ∧ (fD F i).2.2 ≤ 4) ∧ (21 ≤ (fD F i).2.1 → (fD F i).2.1 ≤ 36 → (fD F i).2.2 = 1)) ∧ (∀ i j : Nat, i < j → j < F.length → (fD F i).1 ≠ (fD F j).1) ∧ n = smF D (fD F) F.length ∧ 0 ≤ n ∧ n ≤ 40
theorem smF_congr {D : Int → Int} {F F' : Nat → Int × Int × Int} : ∀ n : Nat, (∀ i, i < n → F i = F' i) → smF D F n = smF D F' n := by
  intro n
  induction n with
  | zero => intro _; rfl
  | succ n ihn => intro h; unfold smF; rw [ihn fun i hi => h i (by omega), h n (by omega)]
theorem fsI_0 (D : Int → Int) : fsI D [] 0 := ⟨by decide, fun i hi => absurd hi (Nat.not_lt_zero i), fun i j _ hj => absurd hj (Nat.not_lt_zero j), rfl, by omega, by omega⟩
theorem rfP_ok {D : Int → Int} {T : List Int} {F : List (Int × Int × Int)} {n : Int} {k : Nat} (hD : okD D) (hI : fsI D F n) (h : (rfP D T F n k).1 = -1) : fsI D (rfP D T F n k).2.1 (rfP D T F n k).2.2.1 ∧ (rfP D T F n k).2.1.length = F.length + 1 ∧ F.length < 8 := by
  unfold rfP at h ⊢
  by_cases hn : nmP F (ltr T k)
  · rw [if_pos hn] at h ⊢
    by_cases h58 : ltr T (k + 1) = 58
    · rw [if_pos h58] at h ⊢
      have hrt := rtP_ok (D := D) (T := T) (k := k + 2)
      generalize rtP D T (k + 2) = z at h hrt ⊢
      unfold rf3 at h ⊢
      by_cases hz : z.1 = -1
      · rw [if_pos hz] at h ⊢
        have hrc := rcP_ok (T := T) (ty := z.2.1) (k := z.2.2)
        generalize rcP T z.2.1 z.2.2 = w at h hrc ⊢
        unfold rf4 at h ⊢
        by_cases hw : w.1 = -1
        · rw [if_pos hw] at h ⊢
          by_cases hf : ltr T w.2.2 = 59 ∧ n + w.2.1 * (tyL (shp D) z.2.1 : Int) ≤ 40
          · rw [if_pos hf] at h ⊢
            have hty := hrt.2 hz
            have hL := okTy_L hD hty
            have hc := hrc.2 hw
            have h0 : 0 ≤ w.2.1 * (tyL (shp D) z.2.1 : Int) := Int.mul_nonneg (by omega) (by omega)
            obtain ⟨i1, i2, i3, i4, i5, i6⟩ := hI
            have hlen : (F ++ [(ltr T k, z.2.1, w.2.1)]).length = F.length + 1 := by rw [List.length_append]; rfl
            have hold : ∀ i : Nat, i < F.length → fD (F ++ [(ltr T k, z.2.1, w.2.1)]) i = fD F i := fun i hi => getD_app1 hi
            have hnew : fD (F ++ [(ltr T k, z.2.1, w.2.1)]) F.length = (ltr T k, z.2.1, w.2.1) := by
              show List.getD _ _ _ = _
              rw [getD_app2 (Nat.le_refl _), Nat.sub_self]; rfl
            refine ⟨⟨by rw [hlen]; have := hn.2.1; omega, fun i hi => ?_, fun i j hij hj => ?_, ?_, by show 0 ≤ n + _; omega, hf.2⟩, hlen, hn.2.1⟩
            · rw [hlen] at hi
              by_cases hiF : i < F.length
              · rw [hold i hiF]; exact i2 i hiF
              · rw [show i = F.length by omega, hnew]
                exact ⟨hn.1, hty, hc.1, hc.2⟩
            · rw [hlen] at hj
              by_cases hjF : j < F.length
              · rw [hold i (by omega), hold j hjF]; exact i3 i j hij hjF
              · rw [show j = F.length by omega, hnew, hold i (by omega)]
                exact hn.2.2 i (by omega)
            · show n + w.2.1 * (tyL (shp D) z.2.1 : Int) = smF D _ (F ++ [(ltr T k, z.2.1, w.2.1)]).length
              rw [hlen]
              unfold smF
              rw [hnew, smF_congr F.length hold, ← i4]
          · rw [if_neg hf] at h
            have h : (w.2.2 : Int) = -1 := h
            omega
        · rw [if_neg hw] at h
          exact absurd h hw
      · rw [if_neg hz] at h
        exact absurd h hz
    · rw [if_neg h58] at h
      have h : (k : Int) + 1 = -1 := h
      omega
  · rw [if_neg hn] at h
    have h : (k : Int) = -1 := h
    omega
theorem rdP_ok {D : Int → Int} {T : List Int} (hD : okD D) : ∀ (m : Nat) (F : List (Int × Int × Int)) (n : Int) (k : Nat), fsI D F n → (rdP D T m F n k).1 = -1 → ∃ n', fsI D (rdP D T m F n k).2 n' := by
  intro m
  induction m with
  | zero => intro F n k _ h; have h : (k : Int) = -1 := h; omega
  | succ m ihm =>
    intro F n k hI h
    unfold rdP at h ⊢
    by_cases h1 : (rfP D T F n k).1 = -1
    · rw [if_pos h1] at h ⊢
      have hz := rfP_ok hD hI h1
      by_cases h2 : (rfP D T F n k).2.2.2 < T.length
      · rw [if_pos h2] at h ⊢
        exact ihm _ _ _ hz.1 h
      · rw [if_neg h2] at h ⊢
        exact ⟨_, hz.1⟩
    · rw [if_neg h1] at h
      exact absurd h h1
/-! the row with the new record -/
def dfN (D : Int → Int) (p : Int) (F : List (Int × Int × Int)) : Nat → Int → Int
  | 0 => newD D p
  | i + 1 => addD (dfN D p F i) (D 0) (fD F i).1 (fD F i).2.1 (fD F i).2.2
theorem dfN_ok {D : Int → Int} {p n : Int} {F : List (Int × Int × Int)} (hA : okA D) (h6 : D 0 < 6) (hp : zp8 p) (hI : fsI D F n) : ∀ i : Nat, i ≤ F.length → okA (dfN D p F i) ∧ dfN D p F i 0 = D 0 + 1 ∧ dP (dfN D p F i) (D 0) = p ∧ dN (dfN D p F i) (D 0) = i ∧ (∀ j : Nat, j < i → dFd (dfN D p F i) (D 0) j = fD F j) ∧ ((gV (shp (dfN D p F i) (D 0))).length : Int) = smF D (fD F) i ∧ (∀ j, 1 ≤ j → j < 1 + 26 * D 0 → dfN D p F i j = D j) ∧ (∀ j, 157 ≤ j → dfN D p F i j = D j) ∧ 0 ≤ smF D (fD F) i := by
  have hD0 := hA.1.1
  intro i
  induction i with
  | zero =>
    intro _
    have hz := newD_at (p := p) hD0.1
    refine ⟨new_okA hA h6 hp, newD_0, hz.1, hz.2, fun j hj => absurd hj (Nat.not_lt_zero j), ?_, new_ag, fun j hj => newD_ne (by omega) (by omega) (by omega), by show (0 : Int) ≤ 0; omega⟩
    show ((gV (shp (newD D p) (D 0))).length : Int) = 0
    rw [new_shp hA.1]
    rfl
  | succ i ihi =>
    intro hi
    obtain ⟨a1, a2, a3, a4, a5, a6, a7, a8, a9⟩ := ihi (by omega)
    obtain ⟨f1, f2, f3, f4, f5, f6⟩ := hI
    obtain ⟨g1, g2, g3, g4⟩ := f2 i (by omega)
    have hr : hasRc (dfN D p F i) (D 0) := ⟨hD0.1, by rw [a2]; omega⟩
    have hag : ∀ r, 0 ≤ r → r < D 0 → shp (dfN D p F i) r = shp D r ∧ dN (dfN D p F i) r = dN D r := fun r q0 q1 => by
      have hz := agN_shp hA.1 (Int.le_refl _) a7 q0 q1
      exact ⟨hz.1, hz.2.2.1⟩
    have hty : okT (dfN D p F i) (D 0) (fD F i).2.1 := by
      rcases g2 with g | g | g
      · exact .inl g
      · exact .inr (.inl g)
      · exact .inr (.inr ⟨g.1, by omega, by rw [(hag _ (by omega) g.2.1).2]; exact g.2.2⟩)
    have htl : tyL (shp (dfN D p F i)) (fD F i).2.1 = tyL (shp D) (fD F i).2.1 := by
      unfold tyL
      split
      · rfl
      · rcases g2 with g | g | g
        · omega
        · omega
        · rw [(hag _ (by omega) g.2.1).1]
    have hL := okTy_L hA.1 g2
    have h0 : 0 ≤ (fD F i).2.2 * (tyL (shp D) (fD F i).2.1 : Int) := Int.mul_nonneg (by omega) (by omega)
    have hsm : smF D (fD F) (i + 1) = smF D (fD F) i + (fD F i).2.2 * (tyL (shp D) (fD F i).2.1 : Int) := rfl
    have hmono : ∀ m : Nat, i + 1 + m ≤ F.length → smF D (fD F) (i + 1) ≤ smF D (fD F) (i + 1 + m) := by
      intro m
      induction m with
      | zero => intro _; exact Int.le_refl _
      | succ m ihm =>
        intro hm
        have h1 := ihm (by omega)
        obtain ⟨_, x2, x3, _⟩ := f2 (i + 1 + m) (by omega)
        have h2 : 0 ≤ (fD F (i + 1 + m)).2.2 * (tyL (shp D) (fD F (i + 1 + m)).2.1 : Int) := Int.mul_nonneg (by omega) (by omega)
        show _ ≤ smF D (fD F) (i + 1 + m) + (fD F (i + 1 + m)).2.2 * (tyL (shp D) (fD F (i + 1 + m)).2.1 : Int)
        omega
    have hle : smF D (fD F) (i + 1) ≤ 40 := by
      have := hmono (F.length - (i + 1)) (by omega)
      rw [show i + 1 + (F.length - (i + 1)) = F.length by omega, ← f4] at this
      omega
    have harg : argF (dfN D p F i) (D 0) (fD F i).1 (fD F i).2.1 (fD F i).2.2 := by
      refine ⟨⟨g1, fun ⟨j, j1, j2⟩ => ?_⟩, hty, g3, g4⟩
      rw [a4, Int.toNat_natCast] at j1
      have h5 := congrArg (fun q : Int × Int × Int => q.1) (a5 j j1)
      have h5 : dNm (dfN D p F i) (D 0) j = (fD F j).1 := h5
      exact f3 j i j1 (by omega) (h5.symm.trans j2)
    have hsta : staF (dfN D p F i) (D 0) (fD F i).2.1 (fD F i).2.2 := by
      refine ⟨by rw [a4]; omega, fun hu => ?_, ?_⟩
      · rcases hu with ⟨r, r0, r1, f, h0', h1', h2'⟩ | ⟨t, t0, t1, t2⟩
        · rw [a2] at r1
          have hokt := ((a1.1.2 r r0 (by rw [a2]; exact r1)).2.2.1 f h0' h1').2.1
          rcases hokt with hh | hh | hh <;> omega
        · have e : tRc (dfN D p F i) t = tRc D t := a8 _ (by omega)
          rcases hA.2.2.1 t t0 t1 with hq | hq
          · omega
          · have := hq.1; omega
      · rw [htl]
        have hz : (((gV (shp (dfN D p F i) (D 0))).length + (fD F i).2.2.toNat * tyL (shp D) (fD F i).2.1 : Nat) : Int) ≤ 40 := by
          rw [Int.natCast_add, Int.natCast_mul, Int.toNat_of_nonneg (by omega), a6]
          omega
        omega
    have hn8 : 0 ≤ dN (dfN D p F i) (D 0) ∧ dN (dfN D p F i) (D 0) < 8 := ⟨by rw [a4]; omega, by rw [a4]; omega⟩
    obtain ⟨b1, b2, b3, b4, b5, b6⟩ := addD_at (nm := (fD F i).1) (ty := (fD F i).2.1) (ct := (fD F i).2.2) hn8
    have hat := add_shp_at (nm := (fD F i).1) (ct := (fD F i).2.2) a1.1 hr hn8 hty hsta.2.1
    refine ⟨add_okA a1 hr harg hsta, ?_, b1.trans a3, by rw [show dN (dfN D p F (i + 1)) (D 0) = dN (dfN D p F i) (D 0) + 1 from b2, a4]; omega, fun j hj => ?_, ?_, fun j q0 q1 => ?_, fun j q0 => ?_, by rw [hsm]; omega⟩
    · exact (addD_ne (by omega) (by omega) (by omega) (by omega)).trans a2
    · by_cases hji : j < i
      · have h5 := a5 j hji
        obtain ⟨c1, c2, c3⟩ := b3 j (by omega) (by rw [a4]; omega)
        show (dNm (addD (dfN D p F i) (D 0) (fD F i).1 (fD F i).2.1 (fD F i).2.2) (D 0) j, dTy (addD (dfN D p F i) (D 0) (fD F i).1 (fD F i).2.1 (fD F i).2.2) (D 0) j, dCt (addD (dfN D p F i) (D 0) (fD F i).1 (fD F i).2.1 (fD F i).2.2) (D 0) j) = _
        rw [c1, c2, c3]
        exact h5
      · have hji2 : j = i := by omega
        subst hji2
        rw [a4] at b4 b5 b6
        show (dNm (addD (dfN D p F j) (D 0) (fD F j).1 (fD F j).2.1 (fD F j).2.2) (D 0) j, dTy (addD (dfN D p F j) (D 0) (fD F j).1 (fD F j).2.1 (fD F j).2.2) (D 0) j, dCt (addD (dfN D p F j) (D 0) (fD F j).1 (fD F j).2.1 (fD F j).2.2) (D 0) j) = _
        rw [b4, b5, b6]
    · show ((gV (shp (addD (dfN D p F i) (D 0) (fD F i).1 (fD F i).2.1 (fD F i).2.2) (D 0))).length : Int) = _
      rw [hat.2, plc_len, htl, hsm, Int.natCast_add, Int.natCast_mul, Int.toNat_of_nonneg (by omega), a6]
    · exact (addD_ne (by omega) (by omega) (by omega) (by omega)).trans (a7 j q0 q1)
    · exact (addD_ne (by omega) (by omega) (by omega) (by omega)).trans (a8 j q0)
