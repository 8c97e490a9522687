/-! ===== compact: tables move down ===== -/
def nxtD (F : Int → Int) (e : Int) : Nat → Int → Int → Int
  | 0, _, c => c
  | n + 1, v, c => nxtD F e n (v + 1) (if tRc F v ≠ -1 ∧ e ≤ tBs F v ∧ (c = -1 ∨ tBs F v < tBs F c) then v else c)
def cpyD (F : Int → Int) (a b : Int) : Nat → Int → Int
  | 0 => F
  | k + 1 => upD (cpyD F a b k) (175 + b + k) (cpyD F a b k (175 + a + k))
def movD (F : Int → Int) (v b : Int) : Int → Int := upD (cpyD F (tBs F v) b (tBy F v).toNat) (157 + 6 * v + 4) b
def stpD (x : (Int → Int) × Int × Int) : (Int → Int) × Int × Int :=
  if nxtD x.1 x.2.2 3 0 (-1) = -1 then x
  else (movD x.1 (nxtD x.1 x.2.2 3 0 (-1)) (zup x.2.2 16), x.2.1 + (if zup x.2.2 16 = tBs x.1 (nxtD x.1 x.2.2 3 0 (-1)) then 0 else 1), zup x.2.2 16 + tBy x.1 (nxtD x.1 x.2.2 3 0 (-1)))
def cmD (D : Int → Int) : Nat → (Int → Int) × Int × Int
  | 0 => (D, 0, 0)
  | i + 1 => stpD (cmD D i)
theorem nxt_p {F : Int → Int} {e : Int} : ∀ (n : Nat) (v c : Int), 0 ≤ v → v + n = 3 → (c = -1 ∨ (isLv F c ∧ e ≤ tBs F c)) → (nxtD F e n v c = -1 ∨ (isLv F (nxtD F e n v c) ∧ e ≤ tBs F (nxtD F e n v c))) ∧ (∀ u, v ≤ u → u < 3 → tRc F u ≠ -1 → e ≤ tBs F u → nxtD F e n v c ≠ -1 ∧ tBs F (nxtD F e n v c) ≤ tBs F u) ∧ (c ≠ -1 → nxtD F e n v c ≠ -1 ∧ tBs F (nxtD F e n v c) ≤ tBs F c) := by
  intro n
  induction n with
  | zero => intro v c h0 h1 hc; exact ⟨hc, fun u q0 q1 => by omega, fun h => ⟨h, Int.le_refl _⟩⟩
  | succ n ihn =>
    intro v c h0 h1 hc
    show (nxtD F e n (v + 1) _ = -1 ∨ (isLv F (nxtD F e n (v + 1) _) ∧ e ≤ tBs F (nxtD F e n (v + 1) _))) ∧ (∀ u, v ≤ u → u < 3 → tRc F u ≠ -1 → e ≤ tBs F u → nxtD F e n (v + 1) _ ≠ -1 ∧ tBs F (nxtD F e n (v + 1) _) ≤ tBs F u) ∧ (c ≠ -1 → nxtD F e n (v + 1) _ ≠ -1 ∧ tBs F (nxtD F e n (v + 1) _) ≤ tBs F c)
    by_cases hg : tRc F v ≠ -1 ∧ e ≤ tBs F v ∧ (c = -1 ∨ tBs F v < tBs F c)
    · rw [if_pos hg]
      obtain ⟨a1, a2, a3⟩ := ihn (v + 1) v (by omega) (by omega) (.inr ⟨⟨h0, by omega, hg.1⟩, hg.2.1⟩)
      have a4 := a3 (by omega)
      refine ⟨a1, fun u q0 q1 q2 q3 => ?_, fun hcn => ⟨a4.1, ?_⟩⟩
      · by_cases huv : u = v
        · subst huv; exact a4
        · exact a2 u (by omega) q1 q2 q3
      · rcases hg.2.2 with q | q
        · exact absurd q hcn
        · have := a4.2; omega
    · rw [if_neg hg]
      obtain ⟨a1, a2, a3⟩ := ihn (v + 1) c (by omega) (by omega) hc
      refine ⟨a1, fun u q0 q1 q2 q3 => ?_, a3⟩
      by_cases huv : u = v
      · subst huv
        have hcn : ¬ (c = -1 ∨ tBs F u < tBs F c) := fun q => hg ⟨q2, q3, q⟩
        have a4 := a3 (fun q => hcn (.inl q))
        exact ⟨a4.1, by have := a4.2; omega⟩
      · exact a2 u (by omega) q1 q2 q3
theorem cpy_out {F : Int → Int} {a b j : Int} : ∀ n : Nat, j < 175 + b ∨ 175 + b + n ≤ j → cpyD F a b n j = F j := by
  intro n
  induction n with
  | zero => intro _; rfl
  | succ n ihn =>
    intro h
    show upD (cpyD F a b n) (175 + b + n) _ j = F j
    rw [upD_ne (by omega)]
    exact ihn (by omega)
theorem cpy_same {F : Int → Int} {a : Int} : ∀ n : Nat, cpyD F a a n = F := by
  intro n
  induction n with
  | zero => rfl
  | succ n ihn =>
    funext j
    show upD (cpyD F a a n) (175 + a + n) (cpyD F a a n (175 + a + n)) j = F j
    rw [ihn]
    by_cases h : j = 175 + a + n
    · subst h; rw [upD_eq]
    · rw [upD_ne h]
theorem cpy_B {F : Int → Int} {a b : Int} (hB : okB F) (ha : 0 ≤ a) : ∀ n : Nat, a + n ≤ 1024 → okB (cpyD F a b n) := by
  intro n
  induction n with
  | zero => intro _; exact hB
  | succ n ihn =>
    intro hn j q0 q1
    have hz := ihn (by omega)
    show 0 ≤ upD (cpyD F a b n) (175 + b + n) (cpyD F a b n (175 + a + n)) (175 + j) ∧ upD (cpyD F a b n) (175 + b + n) (cpyD F a b n (175 + a + n)) (175 + j) ≤ 255
    by_cases h : 175 + j = 175 + b + n
    · rw [h, upD_eq]
      have hy := hz (a + n) (by omega) (by omega)
      rw [show 175 + (a + (n : Int)) = 175 + a + n by omega] at hy
      exact hy
    · rw [upD_ne h]; exact hz j q0 q1
/-- what holds between two moves: all tables before the end have moved -/
def cmI (D F : Int → Int) (e last : Int) : Prop := okA F ∧ agR D F ∧ (0 ≤ e ∧ e ≤ 1024) ∧ ∀ u, isLv F u → (tBs F u + tBy F u ≤ e ∧ tBs F u ≤ last) ∨ (e ≤ tBs F u ∧ last < tBs F u)
theorem mov_at {F : Int → Int} {v b : Int} (hv : isLv F v) (hb : 0 ≤ b) : agR F (movD F v b) ∧ (∀ u, 0 ≤ u → u < 3 → u ≠ v → ∀ k, 0 ≤ k → k < 6 → movD F v b (157 + 6 * u + k) = F (157 + 6 * u + k)) ∧ tRc (movD F v b) v = tRc F v ∧ tNr (movD F v b) v = tNr F v ∧ tLy (movD F v b) v = tLy F v ∧ tOr (movD F v b) v = tOr F v ∧ tBs (movD F v b) v = b ∧ tBy (movD F v b) v = tBy F v := by
  have v0 := hv.1
  have v1 := hv.2.1
  have hne : ∀ j, j < 175 → j ≠ 157 + 6 * v + 4 → movD F v b j = F j := fun j h1 h2 => by
    unfold movD
    rw [upD_ne h2]
    exact cpy_out _ (.inl (by omega))
  refine ⟨fun j q0 q1 => hne j (by omega) (by omega), fun u u0 u1 huv k k0 k1 => hne _ (by omega) (by omega), hne _ (by omega) (by omega), hne _ (by omega) (by omega), hne _ (by omega) (by omega), hne _ (by omega) (by omega), ?_, hne _ (by omega) (by omega)⟩
  unfold movD tBs
  rw [upD_eq]
theorem mov_ok {D F : Int → Int} {e last v : Int} (h : cmI D F e last) (hv : isLv F v) (he : e ≤ tBs F v) (hmin : ∀ u, isLv F u → e ≤ tBs F u → tBs F v ≤ tBs F u) : (0 ≤ zup e 16 ∧ zup e 16 ≤ tBs F v) ∧ cmI D (movD F v (zup e 16)) (zup e 16 + tBy F v) (tBs F v) := by
  obtain ⟨hA, hag, hE, hu⟩ := h
  have hT := isLv_ok hA hv
  obtain ⟨q1, q2, q3, q4, q5, q6, q7, q8⟩ := hT
  have hby := tBy_pos hA hv
  have hz : 0 ≤ zup e 16 ∧ zup e 16 ≤ tBs F v ∧ zup e 16 % 16 = 0 ∧ e ≤ zup e 16 := by unfold zup; omega
  obtain ⟨b1, b2, b3, b4, b5, b6, b7, b8⟩ := mov_at (b := zup e 16) hv hz.1
  have hA0 := hA
  obtain ⟨o1, o2, o3, o4⟩ := hA
  have hacc : ∀ u, 0 ≤ u → u < 3 → u ≠ v → tRc (movD F v (zup e 16)) u = tRc F u ∧ tNr (movD F v (zup e 16)) u = tNr F u ∧ tLy (movD F v (zup e 16)) u = tLy F u ∧ tOr (movD F v (zup e 16)) u = tOr F u ∧ tBs (movD F v (zup e 16)) u = tBs F u ∧ tBy (movD F v (zup e 16)) u = tBy F u := fun u u0 u1 huv =>
    ⟨by have := b2 u u0 u1 huv 0 (by omega) (by omega); rw [Int.add_zero] at this; exact this, b2 u u0 u1 huv 1 (by omega) (by omega), b2 u u0 u1 huv 2 (by omega) (by omega), b2 u u0 u1 huv 3 (by omega) (by omega), b2 u u0 u1 huv 4 (by omega) (by omega), b2 u u0 u1 huv 5 (by omega) (by omega)⟩
  have e0 : movD F v (zup e 16) 0 = F 0 := b1 0 (by omega) (by omega)
  have hD0 := o1.1
  have hother : ∀ u, 0 ≤ u → u < 3 → u ≠ v → tRc F u ≠ -1 → (tBs F u + tBy F u ≤ e ∧ tBs F u ≤ last) ∨ tBs F v + tBy F v ≤ tBs F u := fun u u0 u1 huv hl => by
    rcases hu u ⟨u0, u1, hl⟩ with q | q
    · exact .inl q
    · right
      have h1 := hmin u ⟨u0, u1, hl⟩ q.1
      have h2 := o4 u v u0 u1 hv.1 hv.2.1 huv hl hv.2.2
      have h3 := tBy_pos hA0 ⟨u0, u1, hl⟩
      omega
  have hB : okB (movD F v (zup e 16)) := fun j j0 j1 => by
    unfold movD
    rw [upD_ne (by have := hv.1; have := hv.2.1; omega)]
    exact cpy_B o2 q6.1 _ (by omega) j j0 j1
  refine ⟨⟨hz.1, hz.2.1⟩, ⟨agR_okD o1 b1, hB, fun u u0 u1 => ?_, fun u w u0 u1 w0 w1 huw hul hwl => ?_⟩, fun j j0 j1 => (b1 j j0 j1).trans (hag j j0 j1), ⟨by omega, by omega⟩, fun u hul => ?_⟩
  · by_cases huv : u = v
    · right
      rw [huv]
      have hy := agR_rec b1 (r := tRc F v) q1.1 (by omega)
      unfold okTab tG
      rw [b3, b4, b5, b6, b7, b8, e0, hy.2.1, agR_shp o1 b1 q1.1 q1.2]
      exact ⟨q1, q2, q3, q4, q5, ⟨hz.1, hz.2.2.1⟩, q7, by omega⟩
    · obtain ⟨a1, a2, a3, a4, a5, a6⟩ := hacc u u0 u1 huv
      rcases o3 u u0 u1 with hq | hq
      · exact .inl (a1.trans hq)
      · obtain ⟨k1, k2, k3, k4, k5, k6, k7, k8⟩ := hq
        right
        have hy := agR_rec b1 (r := tRc F u) k1.1 (by omega)
        unfold okTab tG
        rw [a1, a2, a3, a4, a5, a6, e0, hy.2.1, agR_shp o1 b1 k1.1 k1.2]
        exact ⟨k1, k2, k3, k4, k5, k6, k7, k8⟩
  · by_cases huv : u = v
    · have hwv : w ≠ v := fun q => huw (huv.trans q.symm)
      obtain ⟨a1, a2, a3, a4, a5, a6⟩ := hacc w w0 w1 hwv
      have hy := hother w w0 w1 hwv (by rw [← a1]; exact hwl)
      rw [huv, b7, b8, a5, a6]
      omega
    · obtain ⟨a1, a2, a3, a4, a5, a6⟩ := hacc u u0 u1 huv
      by_cases hwv : w = v
      · have hy := hother u u0 u1 huv (by rw [← a1]; exact hul)
        rw [hwv, b7, b8, a5, a6]
        omega
      · obtain ⟨c1, c2, c3, c4, c5, c6⟩ := hacc w w0 w1 hwv
        rw [a5, a6, c5, c6]
        exact o4 u w u0 u1 w0 w1 huw (by rw [← a1]; exact hul) (by rw [← c1]; exact hwl)
  · by_cases huv : u = v
    · left; rw [huv, b7, b8]; omega
    · obtain ⟨a1, a2, a3, a4, a5, a6⟩ := hacc u hul.1 hul.2.1 huv
      have hul2 : tRc F u ≠ -1 := by rw [← a1]; exact hul.2.2
      rw [a5, a6]
      have h3 := tBy_pos hA0 ⟨hul.1, hul.2.1, hul2⟩
      rcases hother u hul.1 hul.2.1 huv hul2 with q | q
      · left; omega
      · right; omega
theorem stp_none {D : Int → Int} {i : Nat} (h : nxtD (cmD D i).1 (cmD D i).2.2 3 0 (-1) = -1) : ∀ n : Nat, cmD D (i + n) = cmD D i := by
  intro n
  induction n with
  | zero => rfl
  | succ n ihn =>
    show stpD (cmD D (i + n)) = _
    rw [ihn]
    exact if_pos h
theorem stp_some {D : Int → Int} {i : Nat} (h : nxtD (cmD D i).1 (cmD D i).2.2 3 0 (-1) ≠ -1) : cmD D (i + 1) = (movD (cmD D i).1 (nxtD (cmD D i).1 (cmD D i).2.2 3 0 (-1)) (zup (cmD D i).2.2 16), (cmD D i).2.1 + (if zup (cmD D i).2.2 16 = tBs (cmD D i).1 (nxtD (cmD D i).1 (cmD D i).2.2 3 0 (-1)) then 0 else 1), zup (cmD D i).2.2 16 + tBy (cmD D i).1 (nxtD (cmD D i).1 (cmD D i).2.2 3 0 (-1))) := if_neg h
theorem cmD_ok {D : Int → Int} (hA : okA D) : ∀ i : Nat, (∃ last, cmI D (cmD D i).1 (cmD D i).2.2 last) ∧ 0 ≤ (cmD D i).2.1 ∧ (cmD D i).2.1 ≤ i := by
  intro i
  induction i with
  | zero => exact ⟨⟨-1, hA, fun j _ _ => rfl, ⟨Int.le_refl _, by show (0 : Int) ≤ 1024; omega⟩, fun u hu => .inr ⟨(isLv_ok hA hu).2.2.2.2.2.1.1, by have := (isLv_ok hA hu).2.2.2.2.2.1.1; show (-1 : Int) < tBs D u; omega⟩⟩, Int.le_refl _, Int.le_refl _⟩
  | succ i ihi =>
    obtain ⟨⟨last, hI⟩, h1, h2⟩ := ihi
    obtain ⟨a1, a2, a3⟩ := nxt_p (F := (cmD D i).1) (e := (cmD D i).2.2) 3 0 (-1) (by omega) (by omega) (.inl rfl)
    by_cases h : nxtD (cmD D i).1 (cmD D i).2.2 3 0 (-1) = -1
    · rw [stp_none h 1]; exact ⟨⟨last, hI⟩, h1, by omega⟩
    · rw [stp_some h]
      rcases a1 with q | ⟨q1, q2⟩
      · exact absurd q h
      · have hm := mov_ok hI q1 q2 fun u hu he => (a2 u hu.1 hu.2.1 hu.2.2 he).2
        refine ⟨⟨_, hm.2⟩, ?_, ?_⟩
        · show 0 ≤ (cmD D i).2.1 + _
          split <;> omega
        · show (cmD D i).2.1 + _ ≤ _
          split <;> omega
