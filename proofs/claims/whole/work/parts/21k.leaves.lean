/-! ===== leaves copied to another place: the class ===== -/
def srcD (D : Int → Int) (r o : Int) (k : Nat) : Int := fstP (gV (shp D r)) (lP ((gV (shp D o)).getD k dl)) (gV (shp D r)).length 0
theorem srcD_b {D : Int → Int} {r o : Int} {k : Nat} : srcD D r o k = -1 ∨ (0 ≤ srcD D r o k ∧ srcD D r o k < ((gV (shp D r)).length : Int)) := by
  unfold srcD
  rcases fstP_b (V := gV (shp D r)) (p := lP ((gV (shp D o)).getD k dl)) (gV (shp D r)).length 0 with h | ⟨j, j1, j2, j3, j4⟩
  · exact .inl h
  · right; rw [j3]; omega
def mgC (D : Int → Int) (t : Int) (k src : Nat) (n : Nat) : List ((Int × Nat) × Int64) := (List.range n).map fun (row : Nat) => (((row : Int), k), valD D t row src)
def mgL (D : Int → Int) (t o : Int) : Nat → List ((Int × Nat) × Int64)
  | 0 => []
  | k + 1 => mgL D t o k ++ (if srcD D (tRc D t) o k = -1 then [] else mgC D t k (srcD D (tRc D t) o k).toNat (tNr D t).toNat)
def mgN (D : Int → Int) (t o : Int) : Nat → Int
  | 0 => 0
  | k + 1 => mgN D t o k + (if srcD D (tRc D t) o k = -1 then 0 else 1)
theorem mgN_b {D : Int → Int} {t o : Int} : ∀ n : Nat, 0 ≤ mgN D t o n ∧ mgN D t o n ≤ n := by
  intro n
  induction n with
  | zero => exact ⟨by show (0 : Int) ≤ 0; omega, by show (0 : Int) ≤ 0; omega⟩
  | succ n ihn =>
    show 0 ≤ mgN D t o n + _ ∧ mgN D t o n + _ ≤ _
    split <;> omega
theorem mgC_s {D : Int → Int} {t : Int} {k src n : Nat} : mgC D t k src (n + 1) = mgC D t k src n ++ [(((n : Int), k), valD D t n src)] := by
  unfold mgC; rw [List.range_succ, List.map_append]; rfl
theorem mgC_mem {D : Int → Int} {t : Int} {k src n : Nat} {x : (Int × Nat) × Int64} : x ∈ mgC D t k src n ↔ ∃ row : Nat, row < n ∧ x = (((row : Int), k), valD D t row src) := by
  unfold mgC
  rw [List.mem_map]
  exact ⟨fun ⟨p, hp, he⟩ => ⟨p, List.mem_range.mp hp, he.symm⟩, fun ⟨p, hp, he⟩ => ⟨p, List.mem_range.mpr hp, he.symm⟩⟩
theorem mgL_mem {D : Int → Int} {t o : Int} {x : (Int × Nat) × Int64} : ∀ n : Nat, x ∈ mgL D t o n ↔ ∃ k row : Nat, k < n ∧ row < (tNr D t).toNat ∧ srcD D (tRc D t) o k ≠ -1 ∧ x = (((row : Int), k), valD D t row (srcD D (tRc D t) o k).toNat) := by
  intro n
  induction n with
  | zero => exact ⟨fun h => (by cases h), fun ⟨k, _, h, _⟩ => absurd h (Nat.not_lt_zero _)⟩
  | succ n ihn =>
    show x ∈ mgL D t o n ++ _ ↔ _
    rw [List.mem_append, ihn]
    constructor
    · rintro (⟨k, row, h1, h2⟩ | h)
      · exact ⟨k, row, by omega, h2⟩
      · by_cases hs : srcD D (tRc D t) o n = -1
        · rw [if_pos hs] at h; cases h
        · rw [if_neg hs] at h
          obtain ⟨row, r1, r2⟩ := mgC_mem.mp h
          exact ⟨n, row, by omega, r1, hs, r2⟩
    · rintro ⟨k, row, h1, h2, h3, h4⟩
      by_cases hk : k = n
      · subst hk
        right
        rw [if_neg h3]
        exact mgC_mem.mpr ⟨row, h2, h4⟩
      · left; exact ⟨k, row, by omega, h2, h3, h4⟩
/-- the table that a table becomes: where it lies, and the bytes elsewhere -/
def newP (D D' : Int → Int) (t o : Int) : Prop := okA D' ∧ isLv D' t ∧ tRc D' t = o ∧ tNr D' t = tNr D t ∧ agR D D' ∧ (tBs D t + tBy D t ≤ tBs D' t ∨ tBs D' t + tBy D' t ≤ tBs D t) ∧ ∀ j, 0 ≤ j → (j < tBs D' t ∨ tBs D' t + tBy D' t ≤ j) → D' (175 + j) = D (175 + j)
theorem newP_G {D D' : Int → Int} {t o : Int} (hA : okA D) (h : newP D D' t o) (ho : 0 ≤ o ∧ o < D 0) : tG D' t = shp D o := by
  obtain ⟨h1, h2, h3, h4, h5, -⟩ := h
  unfold tG
  rw [h3]
  exact agR_shp hA.1 h5 ho.1 ho.2
theorem mgL_in {D D' : Int → Int} {t o : Int} (hA : okA D) (h : newP D D' t o) (ho : 0 ≤ o ∧ o < D 0) {n : Nat} (hn : n ≤ (gV (shp D o)).length) : ∀ p ∈ mgL D t o n, inP D' t p.1 := fun p hp => by
  obtain ⟨k, row, h1, h2, h3, rfl⟩ := (mgL_mem n).mp hp
  refine ⟨⟨by show (0 : Int) ≤ row; omega, ?_⟩, ?_⟩
  · show (row : Int) < tNr D' t
    rw [h.2.2.2.1]; omega
  · show k < _
    rw [newP_G hA h ho]; omega
theorem mgC_in {D D' : Int → Int} {t o : Int} (hA : okA D) (h : newP D D' t o) (ho : 0 ≤ o ∧ o < D 0) {k src n : Nat} (hk : k < (gV (shp D o)).length) (hn : (n : Int) ≤ tNr D t) : ∀ p ∈ mgC D t k src n, inP D' t p.1 := fun p hp => by
  obtain ⟨row, h2, rfl⟩ := mgC_mem.mp hp
  refine ⟨⟨by show (0 : Int) ≤ row; omega, ?_⟩, ?_⟩
  · show (row : Int) < tNr D' t
    rw [h.2.2.2.1]; omega
  · show k < _
    rw [newP_G hA h ho]; exact hk
theorem seq_out {D' : Int → Int} {t j : Int} (hA : okA D') (hv : isLv D' t) (hj : j < tBs D' t ∨ tBs D' t + tBy D' t ≤ j) : ∀ (L : List ((Int × Nat) × Int64)) (E : Int → Int), (∀ p ∈ L, inP D' t p.1) → seqW D' t E L (175 + j) = E (175 + j) := by
  have hT := isLv_ok hA hv
  have hG : okG (tG D' t) := okG_shp hA.1 hT.1.1 hT.1.2
  intro L
  induction L with
  | nil => intro E _; rfl
  | cons p L ihL =>
    intro E hp
    have hi := hp p (List.mem_cons_self ..)
    have hd := dist_in hG hT.2.2.2.1 hT.2.2.1 hi.2 hi.1.1 hi.1.2
    have hw := zp8_b (wd_8 (gV (tG D' t)) p.1.2)
    have hby := hT.2.2.2.2.2.2.1
    refine (ihL _ fun q hq => hp q (List.mem_cons_of_mem _ hq)).trans ?_
    show putV E (adr D' t p.1.1 p.1.2) _ _ _ (175 + j) = _
    refine putV_out (by omega) ?_
    unfold adr
    omega
/-- both views -/
def vTwo (s : zSt) (D D' : Int → Int) (t : Int) : Prop := (zI s 48 0 = tBs D t ∧ zI s 48 1 = tOr D t ∧ cVw s 48 (tG D t) (tNr D t) (tLy D t)) ∧ zI s 53 0 = tBs D' t ∧ zI s 53 1 = tOr D' t ∧ cVw s 53 (tG D' t) (tNr D' t) (tLy D' t)
theorem vTwo_fr {P : Int → Prop} {s u : zSt} {D D' : Int → Int} {t : Int} (h : vTwo s D D' t) (hf : frm P s u) (hn : ∀ x, 48 ≤ x → x ≤ 57 → ¬ P x) : vTwo u D D' t :=
  ⟨⟨(fI hf (hn _ (by omega) (by omega))).trans h.1.1, (fI hf (hn _ (by omega) (by omega))).trans h.1.2.1, cVw_fr h.1.2.2 hf fun x x0 x1 => hn x (by omega) (by omega)⟩, (fI hf (hn _ (by omega) (by omega))).trans h.2.1, (fI hf (hn _ (by omega) (by omega))).trans h.2.2.1, cVw_fr h.2.2.2 hf fun x x0 x1 => hn x (by omega) (by omega)⟩
section OPS26
variable {S : Option (Nat × (Nat → Int32))} {Q : Option Value ⊕ Nat → zSt → Prop} {s : zSt} {D D' : Int → Int} {H : List (Int → Int)} {T : List Int}
theorem XT_read {t o row : Int} {k : Nat} {L : List ((Int × Nat) × Int64)} (hA : okA D) (hv : isLv D t) (h : newP D D' t o) (hL : ∀ p ∈ L, inP D' t p.1) (ho : vTwo s D D' t) (hm : cMm s 6 (seqW D' t D' L)) (hk : inP D t (row, k)) (k1 : Q (rL (valD D t row k)) s) : wp S 126 0 [(0, rf 48), (1, rf 6), (2, iv row), (3, iv k)] [] s Q := by
  have hT := isLv_ok hA hv
  obtain ⟨q1, q2, q3, q4, q5, q6, q7, q8⟩ := hT
  have hG : okG (tG D t) := okG_shp hA.1 q1.1 q1.2
  obtain ⟨h1, h2⟩ := seq_okA h.1 h.2.1 hL
  have hd := dist_in hG q4 q3 hk.2 hk.1.1 hk.1.2
  have hw := zp8_b (wd_8 (gV (tG D t)) k)
  dsimp only at hd
  have hap := h.2.2.2.2.2.1
  refine C_read lf_48 ho.1.2.2 ho.1.1 ho.1.2.1 hG q4 q3 hk.2 hk.1 hm h2.2.1 ⟨q6.1, by omega⟩ ?_
  rw [rawV_congr (E := seqW D' t D' L) (E' := D) (by omega) fun j j0 j1 => ?_]
  · exact k1
  · rw [seq_out h.1 h.2.1 (by omega) L D' hL]
    exact h.2.2.2.2.2.2 j (by omega) (by omega)
theorem XT_write {t o row : Int} {k : Nat} {v : Int64} {L : List ((Int × Nat) × Int64)} (h : newP D D' t o) (ho : vTwo s D D' t) (hm : cMm s 6 (seqW D' t D' L)) (hk : inP D' t (row, k)) (k1 : ∀ u, frm (fun x => x = 6) s u → vTwo u D D' t → cMm u 6 (seqW D' t D' (L ++ [((row, k), v)])) → Q rU u) : wp S 131 0 [(0, rf 53), (1, rf 6), (2, iv row), (3, iv k), (4, .long v)] [] s Q := by
  have hT := isLv_ok h.1 h.2.1
  obtain ⟨q1, q2, q3, q4, q5, q6, q7, q8⟩ := hT
  have hG : okG (tG D' t) := okG_shp h.1.1 q1.1 q1.2
  refine C_write lf_53 (by omega) ho.2.2.2 ho.2.1 ho.2.2.1 hG q4 q3 hk.2 hk.1 hm ⟨q6.1, by omega⟩ fun u hfu hcu => ?_
  exact k1 u hfu (vTwo_fr ho hfu fun x x0 x1 => by omega) (by rw [seqW_snoc]; exact hcu)
theorem X_copy_42 {t o x3 : Int} {k src : Nat} {L : List ((Int × Nat) × Int64)} (hA : okA D) (hv : isLv D t) (h : newP D D' t o) (hoo : 0 ≤ o ∧ o < D 0) (hL : ∀ p ∈ L, inP D' t p.1) (hk : k < (gV (shp D o)).length) (hsrc : src < (gV (tG D t)).length) (n : Nat) : ∀ (i : Nat) (s : zSt), (i : Int) + n = tNr D t → vTwo s D D' t → cMm s 6 (seqW D' t D' (L ++ mgC D t k src i)) → (∀ u, frm (fun x => x = 6) s u → vTwo u D D' t → cMm u 6 (seqW D' t D' (L ++ mgC D t k src (tNr D t).toNat)) → wp S 141 5 [(0, rf 2), (1, rf (67 + 11 * tRc D t)), (2, rf (67 + 11 * o)), (3, iv x3), (4, iv (k + 1))] [] u Q) → wp S 141 42 [(0, rf 2), (1, rf (67 + 11 * tRc D t)), (2, rf (67 + 11 * o)), (3, iv x3), (4, iv k), (5, iv src), (6, iv i)] [] s Q := by
  have hT := isLv_ok hA hv
  have hD0 := hA.1.1
  have h12 := hT.2.2.1
  have hO1 := isO_leaves (r := tRc D t) ⟨hT.1.1, by have := hT.1.2; omega⟩
  have hO2 := isO_leaves (r := o) ⟨hoo.1, by omega⟩
  have hLi : ∀ i : Nat, (i : Int) ≤ tNr D t → ∀ p ∈ L ++ mgC D t k src i, inP D' t p.1 := fun i hi p hp => by
    rcases List.mem_append.mp hp with hp | hp
    · exact hL p hp
    · exact mgC_in hA h hoo hk hi p hp
  have hnr : tNr D' t = tNr D t := h.2.2.2.1
  have hG' := newP_G hA h hoo
  induction n with
  | zero =>
    intro i s hi ho hm k1
    have h2 := ho.2.2.2.1
    rw [hnr] at h2
    refine v_RL_copyLeaves_42 hO1 hO2 ⟨⟨by omega, by omega⟩, fun _ => ?_, fun hc => by omega⟩
    exact k1 s frm_refl ho (by rw [show (tNr D t).toNat = i by omega]; exact hm)
  | succ n ihn =>
    intro i s hi ho hm k1
    have h2 := ho.2.2.2.1
    rw [hnr] at h2
    refine v_RL_copyLeaves_42 hO1 hO2 ⟨⟨by omega, by omega⟩, fun hc => by omega, fun _ => ?_⟩
    refine XT_read hA hv h (hLi i (by omega)) ho hm ⟨⟨by show (0 : Int) ≤ i; omega, by show (i : Int) < _; omega⟩, hsrc⟩ (zkL_L ?_)
    refine XT_write h ho hm ⟨⟨by show (0 : Int) ≤ i; omega, by show (i : Int) < tNr D' t; omega⟩, by show k < _; rw [hG']; exact hk⟩ fun u hfu hou hmu => zkU_U ?_
    refine ihn (i + 1) u (by omega) hou ?_ fun w hfw how hmw => k1 w (frm_trans hfu hfw) how hmw
    rw [mgC_s, ← List.append_assoc]
    exact hmu
theorem X_copy_5 {t o : Int} (hA : okA D) (hv : isLv D t) (h : newP D D' t o) (hoo : 0 ≤ o ∧ o < D 0) (n : Nat) : ∀ (k : Nat) (s : zSt), k + n = (gV (shp D o)).length → cSh s D (D 0) → vTwo s D D' t → cMm s 6 (seqW D' t D' (mgL D t o k)) → (∀ u, frm (fun x => x = 6) s u → vTwo u D D' t → cMm u 6 (seqW D' t D' (mgL D t o (gV (shp D o)).length)) → Q (rI (mgN D t o (gV (shp D o)).length)) u) → wp S 141 5 [(0, rf 2), (1, rf (67 + 11 * tRc D t)), (2, rf (67 + 11 * o)), (3, iv (mgN D t o k)), (4, iv k)] [] s Q := by
  have hT := isLv_ok hA hv
  have hD0 := hA.1.1
  have h40 := (okG_shp hA.1 hoo.1 hoo.2).2.1
  have h40r := (okG_shp hA.1 hT.1.1 hT.1.2).2.1
  have hO1 := isO_leaves (r := tRc D t) ⟨hT.1.1, by have := hT.1.2; omega⟩
  have hO2 := isO_leaves (r := o) ⟨hoo.1, by omega⟩
  have h12 := hT.2.2.1
  have hcl : ∀ s, cSh s D (D 0) → ∀ r, 0 ≤ r → r < D 0 → cLv s (67 + 11 * r) (gV (shp D r)) := fun s hs r r0 r1 => by
    have hz := (hs r r0 r1).2.2.2.2.2
    rw [show (62 : Int) + 11 * r + 5 = 67 + 11 * r by omega] at hz
    exact hz
  induction n with
  | zero =>
    intro k s hk hsh ho hm k1
    have e0 := (hcl s hsh o hoo.1 hoo.2).1
    refine v_RL_copyLeaves_5 hO1 hO2 ⟨⟨by omega, by omega⟩, fun _ => ?_, fun hc => by omega⟩
    rw [show (gV (shp D o)).length = k by omega] at k1
    exact k1 s frm_refl ho hm
  | succ n ihn =>
    intro k s hk hsh ho hm k1
    have e0 := (hcl s hsh o hoo.1 hoo.2).1
    have hpc := ((hcl s hsh o hoo.1 hoo.2).2 k (by omega)).2.2.2.2
    have hlk := leaf_okP hA.1 hoo.1 hoo.2 (k := k) (by omega)
    have hsb := srcD_b (D := D) (r := tRc D t) (o := o) (k := k)
    refine v_RL_copyLeaves_5 hO1 hO2 ⟨⟨by omega, by omega⟩, fun hc => by omega, fun _ => ⟨⟨by omega, by omega⟩, ?_⟩⟩
    rw [hpc]
    refine X_withPath hA ⟨hT.1.1, hT.1.2⟩ (hcl s hsh _ hT.1.1 hT.1.2) ⟨hlk.1, hlk.2.1⟩ ?_
    show zkI _ _ (rI (srcD D (tRc D t) o k))
    refine zkI_I ⟨by omega, by omega⟩ ⟨fun hne => ?_, fun heq => ?_⟩
    · have hs0 : srcD D (tRc D t) o k = ((srcD D (tRc D t) o k).toNat : Int) := by omega
      have hlt : (srcD D (tRc D t) o k).toNat < (gV (tG D t)).length := by unfold tG; omega
      have hz := X_copy_42 (S := S) (Q := Q) (x3 := mgN D t o k + 1) (k := k) (src := (srcD D (tRc D t) o k).toNat) (L := mgL D t o k) hA hv h hoo (mgL_in hA h hoo (by omega)) (by omega) hlt (tNr D t).toNat 0 s (by omega) ho (by show cMm s 6 (seqW D' t D' (mgL D t o k ++ [])); rw [List.append_nil]; exact hm) fun u hfu hou hmu => by
        have hy := ihn (k + 1) u (by omega) (cSh_fr hsh hfu fun x x0 x1 => by omega) hou (by
          show cMm u 6 (seqW D' t D' (mgL D t o k ++ (if srcD D (tRc D t) o k = -1 then [] else mgC D t k (srcD D (tRc D t) o k).toNat (tNr D t).toNat)))
          rw [if_neg hne]
          exact hmu) fun w hfw how hmw => k1 w (frm_trans hfu hfw) how hmw
        have e : mgN D t o (k + 1) = mgN D t o k + 1 := by show mgN D t o k + _ = _; rw [if_neg hne]
        rw [e] at hy
        exact hy
      rw [← hs0] at hz
      exact hz
    · have hy := ihn (k + 1) s (by omega) hsh ho (by
        show cMm s 6 (seqW D' t D' (mgL D t o k ++ (if srcD D (tRc D t) o k = -1 then [] else mgC D t k (srcD D (tRc D t) o k).toNat (tNr D t).toNat)))
        rw [if_pos heq, List.append_nil]
        exact hm) k1
      have e : mgN D t o (k + 1) = mgN D t o k := by show mgN D t o k + _ = _; rw [if_pos heq]; omega
      rw [e] at hy
      exact hy
end OPS26
