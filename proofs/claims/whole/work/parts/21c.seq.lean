/-! ===== writes that lie apart ===== -/
theorem putN_pt {E E' : Int → Int} {a n ord j : Int} {v : Int64} (h : E j = E' j) : ∀ k : Nat, putN E a n ord v k j = putN E' a n ord v k j := by
  intro k
  induction k with
  | zero => exact h
  | succ k ihk =>
    show (if j = 175 + pAt a n ord k then _ else putN E a n ord v k j) = (if j = 175 + pAt a n ord k then _ else putN E' a n ord v k j)
    rw [ihk]
theorem putV_pt {E E' : Int → Int} {a n ord j : Int} {v : Int64} (h : E j = E' j) : putV E a n ord v j = putV E' a n ord v j := putN_pt h _
theorem rawN_congr {E E' : Int → Int} {a n ord : Int} : ∀ k : Nat, (k : Int) ≤ n → (∀ j, a ≤ j → j < a + n → E (175 + j) = E' (175 + j)) → rawN E a n ord k = rawN E' a n ord k := by
  intro k
  induction k with
  | zero => intro _ _; rfl
  | succ k ihk =>
    intro hk h
    show zshlL (rawN E a n ord k) 8 ||| zi2l (E (175 + bAt a n ord k)) = zshlL (rawN E' a n ord k) 8 ||| zi2l (E' (175 + bAt a n ord k))
    have hb : a ≤ bAt a n ord k ∧ bAt a n ord k < a + n := by unfold bAt; split <;> omega
    rw [ihk (by omega) h, h _ hb.1 hb.2]
theorem rawV_congr {E E' : Int → Int} {a n ord : Int} (hn : 0 ≤ n) (h : ∀ j, a ≤ j → j < a + n → E (175 + j) = E' (175 + j)) : rawV E a n ord = rawV E' a n ord := rawN_congr _ (by omega) h
theorem rawV_out {E : Int → Int} {a n ord a' n' ord' : Int} {v : Int64} (hn : 0 ≤ n) (hn' : 0 ≤ n') (h : a + n ≤ a' ∨ a' + n' ≤ a) : rawV (putV E a n ord v) a' n' ord' = rawV E a' n' ord' := rawV_congr hn' fun j q0 q1 => putV_out hn (by omega)
theorem put_comm {E : Int → Int} {a n ord a' n' ord' : Int} {v v' : Int64} (hn : 0 ≤ n) (hn' : 0 ≤ n') (h : a + n ≤ a' ∨ a' + n' ≤ a) : putV (putV E a n ord v) a' n' ord' v' = putV (putV E a' n' ord' v') a n ord v := by
  funext j
  by_cases hj : j < 175 + a ∨ 175 + a + n ≤ j
  · rw [putV_out hn hj]
    exact putV_pt (putV_out hn hj)
  · have hj' : j < 175 + a' ∨ 175 + a' + n' ≤ j := by omega
    rw [putV_out hn' hj']
    exact (putV_pt (putV_out hn' hj')).symm
/-- a value read and written in the places that a row of numbers gives -/
def vlG (D E : Int → Int) (t row : Int) (k : Nat) : Int64 := valO (lT ((gV (tG D t)).getD k dl)) (vBt (tG D t) (tLy D t) k) (rawV E (adr D t row k) (wd (gV (tG D t)) k) (tOr D t))
def wrG (D E : Int → Int) (t row : Int) (k : Nat) (v : Int64) : Int → Int := putV E (adr D t row k) (wd (gV (tG D t)) k) (tOr D t) (stoO (lT ((gV (tG D t)).getD k dl)) (vBt (tG D t) (tLy D t) k) (rawV E (adr D t row k) (wd (gV (tG D t)) k) (tOr D t)) v)
theorem geo_ag {D E : Int → Int} {t : Int} (hA : okA D) (hv : isLv D t) (h : agT D E) : tG E t = tG D t ∧ tNr E t = tNr D t ∧ tLy E t = tLy D t ∧ tOr E t = tOr D t ∧ ∀ row k, adr E t row k = adr D t row k := by
  have hz := agT_tab h hv.1 hv.2.1
  obtain ⟨z1, z2, z3, z4, z5, z6⟩ := hz
  have hg := (tG_ag hA h hv).2.1
  refine ⟨hg, z2, z3, z4, fun row k => ?_⟩
  unfold adr
  rw [hg, z2, z3, z5]
theorem vl_ag {D E : Int → Int} {t row : Int} {k : Nat} (hA : okA D) (hv : isLv D t) (h : agT D E) : valD E t row k = vlG D E t row k := by
  obtain ⟨g1, g2, g3, g4, g5⟩ := geo_ag hA hv h
  unfold valD vlG
  rw [g1, g3, g4, g5]
theorem wr_ag {D E : Int → Int} {t row : Int} {k : Nat} {v : Int64} (hA : okA D) (hv : isLv D t) (h : agT D E) : wrD E t row k v = wrG D E t row k v := by
  obtain ⟨g1, g2, g3, g4, g5⟩ := geo_ag hA hv h
  unfold wrD wrG
  rw [g1, g3, g4, g5]
theorem bt_in {G : ySh} {lay : Int} {k : Nat} (hG : okG G) (hk : k < (gV G).length) (ht : 21 ≤ lT ((gV G).getD k dl) ∧ lT ((gV G).getD k dl) ≤ 36) : 0 ≤ vBt G lay k ∧ vBt G lay k + (lT ((gV G).getD k dl) - 20) ≤ 16 := by
  have h2 := (hG.2.2 _ (getD_mem (d := dl) hk)).2.2.1
  have h3 := zwd_pos ht
  unfold vBt
  split <;> omega
def inP (D : Int → Int) (t : Int) (p : Int × Nat) : Prop := (0 ≤ p.1 ∧ p.1 < tNr D t) ∧ p.2 < (gV (tG D t)).length
theorem vl_wr {D E : Int → Int} {t row row' : Int} {j k : Nat} {v : Int64} (hA : okA D) (hv : isLv D t) (hj : inP D t (row, j)) (hk : inP D t (row', k)) (hne : ¬ (row = row' ∧ j = k)) : vlG D (wrG D E t row j v) t row' k = vlG D E t row' k := by
  have hT := isLv_ok hA hv
  have hap : apD (tG D t) (tNr D t) (tLy D t) row row' j k := dist_ap hA.1 hT.1.1 hT.1.2 hT.2.2.2.1 hT.2.2.1 hj.2 hk.2 hj.1 hk.1 hne
  have w1 := zp8_b (wd_8 (gV (tG D t)) j)
  have w2 := zp8_b (wd_8 (gV (tG D t)) k)
  have hG : okG (tG D t) := okG_shp hA.1 hT.1.1 hT.1.2
  unfold vlG wrG
  rcases hap with h | h | ⟨h1, h2, h3, h4⟩
  · rw [rawV_out (by omega) (by omega) (.inl (by unfold adr; omega))]
  · rw [rawV_out (by omega) (by omega) (.inr (by unfold adr; omega))]
  · have e1 : wd (gV (tG D t)) j = 2 := zby_le h2
    have e2 : wd (gV (tG D t)) k = 2 := zby_le h3
    have e3 : adr D t row j = adr D t row' k := by unfold adr; rw [h1]
    rw [e1, e2, e3, raw_put2, val_sto h2 (bt_in hG hj.2 h2) h3 (bt_in hG hk.2 h3) h4]
theorem wr_wr {D E : Int → Int} {t row row' : Int} {j k : Nat} {v v' : Int64} (hA : okA D) (hv : isLv D t) (hj : inP D t (row, j)) (hk : inP D t (row', k)) (hne : ¬ (row = row' ∧ j = k)) : wrG D (wrG D E t row j v) t row' k v' = wrG D (wrG D E t row' k v') t row j v := by
  have hT := isLv_ok hA hv
  have hap : apD (tG D t) (tNr D t) (tLy D t) row row' j k := dist_ap hA.1 hT.1.1 hT.1.2 hT.2.2.2.1 hT.2.2.1 hj.2 hk.2 hj.1 hk.1 hne
  have w1 := zp8_b (wd_8 (gV (tG D t)) j)
  have w2 := zp8_b (wd_8 (gV (tG D t)) k)
  have hG : okG (tG D t) := okG_shp hA.1 hT.1.1 hT.1.2
  have hby : adr D t row j + wd (gV (tG D t)) j ≤ adr D t row' k ∨ adr D t row' k + wd (gV (tG D t)) k ≤ adr D t row j → wrG D (wrG D E t row j v) t row' k v' = wrG D (wrG D E t row' k v') t row j v := fun h => by
    unfold wrG
    rw [rawV_out (by omega) (by omega) h, rawV_out (a := adr D t row' k) (a' := adr D t row j) (by omega) (by omega) h.symm]
    exact put_comm (by omega) (by omega) h
  rcases hap with h | h | ⟨h1, h2, h3, h4⟩
  · exact hby (.inl (by unfold adr; omega))
  · exact hby (.inr (by unfold adr; omega))
  · have e1 : wd (gV (tG D t)) j = 2 := zby_le h2
    have e2 : wd (gV (tG D t)) k = 2 := zby_le h3
    have e3 : adr D t row j = adr D t row' k := by unfold adr; rw [h1]
    unfold wrG
    rw [e1, e2, e3, raw_put2, raw_put2, put2_put2, put2_put2]
    exact put2_congr (sto_comm h2 (bt_in hG hj.2 h2) h3 (bt_in hG hk.2 h3) h4)
/-- many writes, one after the other -/
def seqW (D : Int → Int) (t : Int) (E : Int → Int) (L : List ((Int × Nat) × Int64)) : Int → Int := L.foldl (fun E p => wrG D E t p.1.1 p.1.2 p.2) E
theorem seqW_snoc {D E : Int → Int} {t : Int} {L : List ((Int × Nat) × Int64)} {p : (Int × Nat) × Int64} : seqW D t E (L ++ [p]) = wrG D (seqW D t E L) t p.1.1 p.1.2 p.2 := by
  unfold seqW
  rw [List.foldl_append]
  rfl
theorem seqW_app {D E : Int → Int} {t : Int} {L L' : List ((Int × Nat) × Int64)} : seqW D t E (L ++ L') = seqW D t (seqW D t E L) L' := List.foldl_append
theorem seq_ok {D : Int → Int} {t : Int} (hA : okA D) (hv : isLv D t) : ∀ (L : List ((Int × Nat) × Int64)) (E : Int → Int), (∀ p ∈ L, inP D t p.1) → agT D E → okB E → agT D (seqW D t E L) ∧ okB (seqW D t E L) := by
  intro L
  induction L with
  | nil => intro E _ h1 h2; exact ⟨h1, h2⟩
  | cons p L ihL =>
    intro E hp h1 h2
    have hi := hp p (List.mem_cons_self ..)
    have hz := tab_adr hA (isLv_ok hA hv) hi.2 hi.1
    exact ihL _ (fun q hq => hp q (List.mem_cons_of_mem _ hq)) (agT_trans h1 (agT_put hz.1.1 hz.2.2)) (okB_put h2)
theorem seq_okA {D : Int → Int} {t : Int} {L : List ((Int × Nat) × Int64)} (hA : okA D) (hv : isLv D t) (hL : ∀ p ∈ L, inP D t p.1) : agT D (seqW D t D L) ∧ okA (seqW D t D L) := by
  have hz := seq_ok hA hv L D hL (fun j _ _ => rfl) hA.2.1
  exact ⟨hz.1, agT_okA hA hz.1 hz.2⟩
theorem seq_val {D : Int → Int} {t row : Int} {k : Nat} (hA : okA D) (hv : isLv D t) (hk : inP D t (row, k)) : ∀ (L : List ((Int × Nat) × Int64)) (E : Int → Int), (∀ p ∈ L, inP D t p.1) → (∀ p ∈ L, p.1 ≠ (row, k)) → vlG D (seqW D t E L) t row k = vlG D E t row k := by
  intro L
  induction L with
  | nil => intro E _ _; rfl
  | cons p L ihL =>
    intro E hp hn
    have hi := hp p (List.mem_cons_self ..)
    have hne := hn p (List.mem_cons_self ..)
    refine (ihL _ (fun q hq => hp q (List.mem_cons_of_mem _ hq)) fun q hq => hn q (List.mem_cons_of_mem _ hq)).trans ?_
    exact vl_wr hA hv (j := p.1.2) (row := p.1.1) hi hk fun q => hne (Prod.ext q.1 q.2)
theorem seq_perm {D E : Int → Int} {t : Int} {L L' : List ((Int × Nat) × Int64)} (hA : okA D) (hv : isLv D t) (hp : ∀ p ∈ L, inP D t p.1) (hf : ∀ p ∈ L, ∀ q ∈ L, p.1 = q.1 → p = q) (h : L.Perm L') : seqW D t E L = seqW D t E L' := by
  unfold seqW
  refine h.foldl_eq' (fun p hp1 q hq1 z => ?_) E
  by_cases hpq : p.1 = q.1
  · rw [hf p hp1 q hq1 hpq]
  · exact wr_wr hA hv (hp p hp1) (hp q hq1) fun g => hpq (Prod.ext g.1 g.2)
