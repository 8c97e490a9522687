/-! ===== states of the class: what they hold, and copies of them ===== -/
def cTb (s : zSt) (b : Int) (D : Int → Int) (t : Int) : Prop := (tRc D t = -1 ∧ zI s b 0 = 0) ∨ (tRc D t ≠ -1 ∧ zI s b 0 = 1 ∧ ∀ k, 0 ≤ k → k < 6 → zI s b (k + 1) = D (157 + 6 * t + k))
def cMm (s : zSt) (a : Int) (D : Int → Int) : Prop := ∀ j, 0 ≤ j → j < 1024 → D (175 + j) = zI s a j % 256 ∧ -128 ≤ zI s a j ∧ zI s a j ≤ 127
def cSt (s : zSt) (c : Int) (D : Int → Int) : Prop := zI s c 0 = D 0 ∧ cFl s c D (D 0) ∧ (∀ t, 0 ≤ t → t < 3 → cTb s (c + 28 + t) D t) ∧ cMm s (c + 3) D
theorem cTb_fr {P : Int → Prop} {s u : zSt} {b t : Int} {D : Int → Int} (h : cTb s b D t) (hf : frm P s u) (hn : ¬ P b) : cTb u b D t := by
  rcases h with ⟨h1, h2⟩ | ⟨h1, h2, h3⟩
  · exact .inl ⟨h1, (fI hf hn).trans h2⟩
  · exact .inr ⟨h1, (fI hf hn).trans h2, fun k q0 q1 => (fI hf hn).trans (h3 k q0 q1)⟩
theorem cMm_fr {P : Int → Prop} {s u : zSt} {a : Int} {D : Int → Int} (h : cMm s a D) (hf : frm P s u) (hn : ¬ P a) : cMm u a D := fun j q0 q1 => by rw [fI hf hn]; exact h j q0 q1
theorem cSt_fr {P : Int → Prop} {s u : zSt} {c : Int} {D : Int → Int} (h : cSt s c D) (hD : D 0 ≤ 6) (hf : frm P s u) (hn : ∀ x, c ≤ x → x ≤ c + 30 → ¬ P x) : cSt u c D :=
  ⟨(fI hf (hn _ (by omega) (by omega))).trans h.1, cFl_fr h.2.1 hf fun x x0 x1 => hn x (by omega) (by omega), fun t q0 q1 => cTb_fr (h.2.2.1 t q0 q1) hf (hn _ (by omega) (by omega)), cMm_fr h.2.2.2 hf (hn _ (by omega) (by omega))⟩
/-- numbers of fields are in range -/
def okNs (D : Int → Int) : Prop := (0 ≤ D 0 ∧ D 0 ≤ 6) ∧ ∀ r, 0 ≤ r → r < D 0 → 0 ≤ dN D r ∧ dN D r ≤ 8
theorem okD_Ns {D : Int → Int} (h : okD D) : okNs D := ⟨h.1, fun r q0 q1 => (h.2 r q0 q1).2.1⟩
theorem isO_fld {c r : Int} (h : isO c 5) (hr : 0 ≤ r ∧ r < 6) : isO (c + 4 + 4 * r) 1 := by
  have hz := e_1 (t_5_1 h) hr.1 (by omega : r < ((6 : Nat) : Int))
  rw [show c + 1 + 3 + 4 * r = c + 4 + 4 * r by omega] at hz
  exact hz
theorem isO_tab {c t : Int} (h : isO c 5) (ht : 0 ≤ t ∧ t < 3) : isO (c + 28 + t) 6 := by
  have hz := e_6 (t_5_2 h) ht.1 (by omega : t < ((3 : Nat) : Int))
  rw [show c + 2 + 26 + 1 * t = c + 28 + t by omega] at hz
  exact hz
section CST
variable {S : Option (Nat × (Nat → Int32))} {Q : Option Value ⊕ Nat → zSt → Prop}
theorem C_Fcopy_15 {a b pack n : Int} {F : Nat → Int × Int × Int} (ha : isO a 1) (hb : isO b 1) (hd : a + 3 < b ∨ b + 3 < a) (hn : 0 ≤ n ∧ n ≤ 8) (m : Nat) : ∀ (i : Nat) (s : zSt), (i : Int) + m = n → cFld s b pack n F → cFld s a pack i F → (∀ t, frm (fun x => a ≤ x ∧ x ≤ a + 3) s t → cFld t a pack n F → Q rU t) →
    wp S 20 15 [(0, rf a), (1, rf b), (2, iv i)] [] s Q := by
  induction m with
  | zero =>
    intro i s hi hs ht hQ
    have h1 := hs.2.1
    exact v_Fields_copyFrom_15 ha hb ⟨⟨by omega, by omega⟩, fun _ => hQ s frm_refl (by rw [show n = i by omega]; exact ht), fun hc => by omega⟩
  | succ m ihm =>
    intro i s hi hs ht hQ
    refine wp_W fun hW => ?_
    have h1 := hs.2.1
    have h2 := ht.2.1
    obtain ⟨w1, w2, w3⟩ := hs.2.2 i (by omega)
    refine v_Fields_copyFrom_15 ha hb ⟨⟨by omega, by omega⟩, fun hc => by omega, fun _ => ⟨⟨by omega, by omega⟩, v_Fields_add_0 ha ⟨fun _ => ⟨⟨by omega, by omega⟩, hW _ _, hW _ _, hW _ _, ⟨by omega, by omega⟩, zkU_U ?_⟩, fun hc => by omega⟩⟩⟩
    rw [h2]
    have hfr : frm (fun x => a ≤ x ∧ x ≤ a + 3) s (zwI (zwI (zwI (zwI s (a + 1) i (zI s (b + 1) i)) (a + 2) i (zI s (b + 2) i)) (a + 3) i (zI s (b + 3) i)) a 1 ((i : Int) + 1)) :=
      frm_I (frm_I (frm_I (frm_I frm_refl ⟨by omega, by omega⟩) ⟨by omega, by omega⟩) ⟨by omega, by omega⟩) ⟨by omega, by omega⟩
    refine ihm (i + 1) _ (by omega) (cFld_fr hs hfr fun x x0 x1 => by omega) ⟨?_, zI_eq, fun f hf => ?_⟩ fun t hft hct => hQ t (frm_trans hfr hft) hct
    · rw [zI_nj (by omega), zI_ne (by omega), zI_ne (by omega), zI_ne (by omega)]; exact ht.1
    · by_cases hfi : f = i
      · subst hfi
        refine ⟨?_, ?_, ?_⟩
        · rw [zI_ne (by omega), zI_ne (by omega), zI_ne (by omega), zI_eq]; exact w1
        · rw [zI_ne (by omega), zI_ne (by omega), zI_eq]; exact w2
        · rw [zI_ne (by omega), zI_eq]; exact w3
      · obtain ⟨u1, u2, u3⟩ := ht.2.2 f (by omega)
        refine ⟨?_, ?_, ?_⟩
        · rw [zI_ne (by omega), zI_ne (by omega), zI_ne (by omega), zI_nj (by omega)]; exact u1
        · rw [zI_ne (by omega), zI_ne (by omega), zI_nj (by omega), zI_ne (by omega)]; exact u2
        · rw [zI_ne (by omega), zI_nj (by omega), zI_ne (by omega), zI_ne (by omega)]; exact u3
theorem C_Fcopy {a b pack n : Int} {F : Nat → Int × Int × Int} {s : zSt} (ha : isO a 1) (hb : isO b 1) (hd : a + 3 < b ∨ b + 3 < a) (hn : 0 ≤ n ∧ n ≤ 8) (hs : cFld s b pack n F) (hQ : ∀ t, frm (fun x => a ≤ x ∧ x ≤ a + 3) s t → cFld t a pack n F → Q rU t) : wp S 20 0 [(0, rf a), (1, rf b)] [] s Q := by
  refine wp_W fun hW => ?_
  refine v_Fields_copyFrom_0 ha hb ?_
  have hfr : frm (fun x => a ≤ x ∧ x ≤ a + 3) s (zwI (zwI s a 0 (zI s b 0)) a 1 0) := frm_I (frm_I frm_refl ⟨by omega, by omega⟩) ⟨by omega, by omega⟩
  refine C_Fcopy_15 ha hb hd hn n.toNat 0 _ (by omega) (cFld_fr hs hfr fun x x0 x1 => by omega) ⟨?_, zI_eq, fun f hf => by omega⟩ fun t hft hct => hQ t (frm_trans hfr hft) hct
  rw [zI_nj (by omega), zI_eq]; exact hs.1
theorem C_Tcopy {a b t : Int} {D : Int → Int} {s : zSt} (ha : isO a 6) (hb : isO b 6) (hd : a ≠ b) (hs : cTb s b D t) (hQ : ∀ u, frm (fun x => x = a) s u → cTb u a D t → Q rU u) : wp S 22 0 [(0, rf a), (1, rf b)] [] s Q := by
  have h01 : zI s b 0 = 0 ∨ zI s b 0 = 1 := by
    rcases hs with hs | hs
    · exact .inl hs.2
    · exact .inr hs.2.1
  have hd' : b ≠ a := fun hc => hd hc.symm
  refine v_Table_copyFrom_0 ha hb ⟨h01, ?_⟩
  simp only [zI_ne hd']
  refine hQ _ (frm_I (frm_I (frm_I (frm_I (frm_I (frm_I (frm_I frm_refl rfl) rfl) rfl) rfl) rfl) rfl) rfl) ?_
  have hk : ∀ k, 0 ≤ k → k < 7 → zI (zwI (zwI (zwI (zwI (zwI (zwI (zwI s a 0 (zI s b 0)) a 1 (zI s b 1)) a 2 (zI s b 2)) a 3 (zI s b 3)) a 4 (zI s b 4)) a 5 (zI s b 5)) a 6 (zI s b 6)) a k = zI s b k := by
    intro k k0 k1
    rcases (by omega : k = 0 ∨ k = 1 ∨ k = 2 ∨ k = 3 ∨ k = 4 ∨ k = 5 ∨ k = 6) with h | h | h | h | h | h | h <;> subst h <;> simp (disch := omega) only [zI_eq, zI_nj]
  rcases hs with ⟨h1, h2⟩ | ⟨h1, h2, h3⟩
  · exact .inl ⟨h1, (hk 0 (by omega) (by omega)).trans h2⟩
  · exact .inr ⟨h1, (hk 0 (by omega) (by omega)).trans h2, fun k q0 q1 => (hk (k + 1) (by omega) (by omega)).trans (h3 k q0 q1)⟩
theorem C_Scopy_41 {a b : Int} {D : Int → Int} (ha : isO a 5) (hb : isO b 5) (hd : a + 30 < b ∨ b + 30 < a) (hD : D 0 ≤ 6) (m : Nat) : ∀ (i : Nat) (s : zSt), (i : Int) + m = 3 → cSt s b D → zI s a 0 = D 0 → cFl s a D (D 0) → (∀ t : Int, 0 ≤ t → t < i → cTb s (a + 28 + t) D t) → (∀ u, frm (fun x => a ≤ x ∧ x ≤ a + 30) s u → cSt u a D → Q rU u) →
    wp S 19 41 [(0, rf a), (1, rf b), (2, iv i)] [] s Q := by
  induction m with
  | zero =>
    intro i s hi hs h0 hf ht hQ
    refine v_State_copyFrom_41 ha hb ⟨⟨by omega, by omega⟩, fun _ => ⟨by omega, fun j q0 q1 => (hs.2.2.2 j q0 q1).2, ?_⟩, fun hc => by omega⟩
    have hfr : frm (fun x => a ≤ x ∧ x ≤ a + 30) s (zwC s (a + 3) (b + 3) 1024) := frm_C frm_refl ⟨by omega, by omega⟩
    have hfr2 : frm (fun x => x = a + 3) s (zwC s (a + 3) (b + 3) 1024) := frm_C frm_refl rfl
    refine hQ _ hfr ⟨(fI hfr2 (by omega)).trans h0, cFl_fr hf hfr2 fun x x0 x1 => by omega, fun t q0 q1 => cTb_fr (ht t q0 (by omega)) hfr2 (by omega), fun j q0 q1 => ?_⟩
    rw [zI_wC, if_pos ⟨rfl, q0, q1⟩]
    exact hs.2.2.2 j q0 q1
  | succ m ihm =>
    intro i s hi hs h0 hf ht hQ
    refine v_State_copyFrom_41 ha hb ⟨⟨by omega, by omega⟩, fun hc => by omega, fun _ => ⟨⟨by omega, by omega⟩, C_Tcopy (t := i) (D := D) (isO_tab ha ⟨by omega, by omega⟩) (isO_tab hb ⟨by omega, by omega⟩) (by omega) (hs.2.2.1 i (by omega) (by omega)) fun u hfu hcu => zkU_U ?_⟩⟩
    refine ihm (i + 1) u (by omega) (cSt_fr hs hD hfu fun x x0 x1 => by omega) ((fI hfu (by omega)).trans h0) (cFl_fr hf hfu fun x x0 x1 => by omega) (fun t q0 q1 => ?_) fun w hfw hcw => hQ w (frm_trans (frm_mono hfu fun x hx => by omega) hfw) hcw
    by_cases hti : t = i
    · subst hti; exact hcu
    · exact cTb_fr (ht t q0 (by omega)) hfu (by omega)
theorem C_Scopy_10 {a b : Int} {D : Int → Int} (ha : isO a 5) (hb : isO b 5) (hd : a + 30 < b ∨ b + 30 < a) (hD : okNs D) (m : Nat) : ∀ (i : Nat) (s : zSt), (i : Int) + m = D 0 → cSt s b D → zI s a 0 = D 0 → cFl s a D i → (∀ u, frm (fun x => a ≤ x ∧ x ≤ a + 30) s u → cSt u a D → Q rU u) →
    wp S 19 10 [(0, rf a), (1, rf b), (2, iv i)] [] s Q := by
  obtain ⟨hD0, hDn⟩ := hD
  induction m with
  | zero =>
    intro i s hi hs h0 hf hQ
    refine v_State_copyFrom_10 ha hb ⟨⟨by omega, by omega⟩, fun _ => C_Scopy_41 ha hb hd hD0.2 3 0 s (by decide) hs h0 (by rw [show D 0 = i by omega]; exact hf) (fun t q0 q1 => by omega) hQ, fun hc => by omega⟩
  | succ m ihm =>
    intro i s hi hs h0 hf hQ
    refine v_State_copyFrom_10 ha hb ⟨⟨by omega, by omega⟩, fun hc => by omega, fun _ => ⟨⟨by omega, by omega⟩, C_Fcopy (isO_fld ha ⟨by omega, by omega⟩) (isO_fld hb ⟨by omega, by omega⟩) (by omega) (hDn i (by omega) (by omega)) (hs.2.1 i (by omega) (by omega)) fun u hfu hcu => zkU_U ?_⟩⟩
    refine ihm (i + 1) u (by omega) (cSt_fr hs hD0.2 hfu fun x x0 x1 => by omega) ((fI hfu (by omega)).trans h0) (fun r q0 q1 => ?_) fun w hfw hcw => hQ w (frm_trans (frm_mono hfu fun x hx => ⟨by omega, by omega⟩) hfw) hcw
    by_cases hri : r = i
    · subst hri; exact hcu
    · exact cFld_fr (hf r q0 (by omega)) hfu fun x x0 x1 => by omega
theorem C_Scopy {a b : Int} {D : Int → Int} {s : zSt} (ha : isO a 5) (hb : isO b 5) (hd : a + 30 < b ∨ b + 30 < a) (hD : okNs D) (hs : cSt s b D) (hQ : ∀ u, frm (fun x => a ≤ x ∧ x ≤ a + 30) s u → cSt u a D → Q rU u) : wp S 19 0 [(0, rf a), (1, rf b)] [] s Q := by
  refine v_State_copyFrom_0 ha hb ?_
  have hfr : frm (fun x => x = a) s (zwI s a 0 (zI s b 0)) := frm_I frm_refl rfl
  exact C_Scopy_10 ha hb hd hD (D 0).toNat 0 _ (by have := hD.1; omega) (cSt_fr hs hD.1.2 hfr fun x x0 x1 => by omega) (zI_eq.trans hs.1) (fun r q0 q1 => by omega) fun u hfu hcu => hQ u (frm_trans (frm_mono hfr fun x hx => by omega) hfu) hcu
end CST
