/-! ===== the class counts from the end ===== -/
def cBo (s : zSt) (n : Nat) (P : Nat → Int × Int × Int) : Prop := zI s 42 2 = (n : Int) ∧ ∀ f : Nat, f < n → zI s 44 f = pL P f ∧ zI s 45 f = pA P f ∧ zI s 46 f = pW P f
theorem cBo_fr {R : Int → Prop} {s t : zSt} {n : Nat} {P : Nat → Int × Int × Int} (h : cBo s n P) (hf : frm R s t) (hn : ¬ R 42 ∧ ¬ R 44 ∧ ¬ R 45 ∧ ¬ R 46) : cBo t n P :=
  ⟨(fI hf hn.1).trans h.1, fun f hf2 => ⟨(fI hf hn.2.1).trans (h.2 f hf2).1, (fI hf hn.2.2.1).trans (h.2 f hf2).2.1, (fI hf hn.2.2.2).trans (h.2 f hf2).2.2⟩⟩
def hasB (n : Nat) (P : Nat → Int × Int × Int) (Z : Nat) : Prop := ∃ f, f < n ∧ Nat.testBit Z f = true ∧ 0 < pW P f
/-- the cells of a set are filled -/
def cNd (s : zSt) (n : Nat) (P : Nat → Int × Int × Int) (Z : Nat) : Prop := ∀ l : Nat, l < 16 → (l = 0 ∨ hasB n P Z) → isNd n P Z l (zI s 47 (Z * 16 + l))
theorem tb_T {Z f : Nat} (hZ : Z < 256) (hf : f < 8) : zand (zshr (Z : Int) (f : Int)) 1 = 1 ↔ Nat.testBit Z f = true := by
  rw [(set_tab Z hZ f hf).2.1]
  cases Nat.testBit Z f <;> decide
theorem zla_b {l w : Int} (hl : 0 ≤ l ∧ l < 16) (hw : 0 ≤ w ∧ w ≤ 16) : 0 ≤ zla l w ∧ zla l w < 16 ∧ (w = 0 → zla l w = 0) := by
  unfold zla
  split
  · omega
  · split <;> omega
section BOS
variable {S : Option (Nat × (Nat → Int32))} {Q : Option Value ⊕ Nat → zSt → Prop} {s : zSt} {n : Nat} {P : Nat → Int × Int × Int}
theorem C_hasBits {Z : Nat} (hP : okFp n P) (hb : cBo s n P) (hZ : Z < 256) (k1 : Q (rI (bi (hasB n P Z))) s) (m : Nat) : ∀ f : Nat, f + m = n → (∀ g, g < f → ¬ (Nat.testBit Z g = true ∧ 0 < pW P g)) → wp S 79 2 [(0, rf 42), (1, iv Z), (2, iv f)] [] s Q := by
  have h8 := hP.1
  induction m with
  | zero =>
    intro f hf hg
    refine v_BestOrder_hasBits_2 ?_
    rw [hb.1]
    refine ⟨⟨by omega, by omega⟩, fun _ => ?_, fun hc => by omega⟩
    rw [bi_F (fun ⟨g, g1, g2⟩ => hg g (by omega) g2)] at k1
    exact k1
  | succ m ihm =>
    intro f hf hg
    have hfn : f < n := by omega
    have ht := tb_T hZ (show f < 8 by omega)
    have hnext : ¬ (Nat.testBit Z f = true ∧ 0 < pW P f) → wp S 79 2 [(0, rf 42), (1, iv Z), (2, iv ((f : Int) + 1))] [] s Q := fun hn => ihm (f + 1) (by omega) fun g hg2 => by
      by_cases hgf : g = f
      · subst hgf; exact hn
      · exact hg g (by omega)
    refine v_BestOrder_hasBits_2 ?_
    rw [hb.1, (hb.2 f hfn).2.2]
    refine ⟨⟨by omega, by omega⟩, fun hc => by omega, fun _ => ⟨fun hc => hnext fun hh => hc (ht.mpr hh.1), fun hc => ⟨⟨by omega, by omega⟩, fun hw => hnext fun hh => by omega, fun hw => ?_⟩⟩⟩
    rw [bi_T ⟨f, hfn, ht.mp hc, hw⟩] at k1
    exact k1
theorem C_least {Z : Nat} {l : Nat} (hP : okFp n P) (hb : cBo s n P) (hZ : Z < 2 ^ n) (hl : l < 16) (hc : ∀ f, f < n → Nat.testBit Z f = false → cNd s n P (Z ||| 2 ^ f)) (k1 : ∀ v, isNd n P Z l v → Q (rI v) s) : wp S 80 0 [(0, rf 42), (1, iv Z), (2, iv l)] [] s Q := by
  have h8 := hP.1
  have hZ2 : Z < 256 := Nat.lt_of_lt_of_le hZ (Nat.pow_le_pow_right (by decide) h8 : 2 ^ n ≤ 2 ^ 8)
  have hcell : ∀ f, f < n → Nat.testBit Z f = false → isNd n P (Z ||| 2 ^ f) (zla l (pW P f)) (zI s 47 (((Z ||| 2 ^ f : Nat) : Int) * 16 + zla l (pW P f))) := by
    intro f hf hz
    obtain ⟨p1, p2, p3⟩ := hP.2 f hf
    have hzb := zla_b (l := (l : Int)) ⟨by omega, by omega⟩ p2
    obtain ⟨m, hm⟩ : ∃ m : Nat, zla l (pW P f) = m := ⟨(zla l (pW P f)).toNat, by omega⟩
    rw [hm]
    refine hc f hf hz m (by omega) ?_
    by_cases hw : pW P f = 0
    · have := hzb.2.2 hw; exact .inl (by omega)
    · exact .inr ⟨f, hf, by rw [tb_or, decide_eq_true rfl, Bool.or_true], by omega⟩
  have hloop : ∀ (x0 : Int), (x0 = 0 ∨ x0 = 1048576) → (x0 = 0 → ∀ f, f < n → Nat.testBit Z f = true) → (x0 = 1048576 → ∃ f, f < n ∧ Nat.testBit Z f = false) → ∀ (m : Nat) (f : Nat) (x : Int), f + m = n → (x = x0 ∨ ∃ g, g < f ∧ Nat.testBit Z g = false ∧ x = gNd P l g (zI s 47 (((Z ||| 2 ^ g : Nat) : Int) * 16 + zla l (pW P g)))) → (∀ g, g < f → Nat.testBit Z g = false → x ≤ gNd P l g (zI s 47 (((Z ||| 2 ^ g : Nat) : Int) * 16 + zla l (pW P g)))) → 0 ≤ x → x ≤ 1048576 → wp S 80 22 [(0, rf 42), (1, iv Z), (2, iv l), (3, iv x), (4, iv f)] [] s Q := by
    intro x0 hx0 hx0a hx0b m
    induction m with
    | zero =>
      intro f x hf hx hle h0 h1
      refine v_BestOrder_leastNeed_22 ?_
      rw [hb.1]
      refine ⟨⟨by omega, by omega⟩, fun _ => k1 x ?_, fun hc => by omega⟩
      have hfn : f = n := by omega
      subst hfn
      rcases hx with hx | ⟨g, g1, g2, g3⟩
      · rcases hx0 with h | h
        · rw [hx, h]; exact isNd_full (hx0a h)
        · obtain ⟨g, g1, g2⟩ := hx0b h
          have hle2 := hle g g1 g2
          have hib := isNd_b hP (hcell g g1 g2)
          have hgb := gNd_b (l := (l : Int)) hP g1 hib.1
          omega
      · exact isNd_min hP hcell ⟨g, g1, g2, g3⟩ hle
    | succ m ihm =>
      intro f x hf hx hle h0 h1
      have hfn : f < n := by omega
      have ht := tb_T hZ2 (show f < 8 by omega)
      have hst := set_tab Z hZ2 f (by omega)
      obtain ⟨p1, p2, p3⟩ := hP.2 f hfn
      have hzb := zla_b (l := (l : Int)) ⟨by omega, by omega⟩ p2
      obtain ⟨b1, b2, b3⟩ := hb.2 f hfn
      refine v_BestOrder_leastNeed_22 ?_
      rw [hb.1, b1, b2, b3, hst.1]
      refine ⟨⟨by omega, by omega⟩, fun hc => by omega, fun _ => ⟨fun hc => ?_, fun hc => ?_⟩⟩
      · have hz : Nat.testBit Z f = false := by
          cases hzz : Nat.testBit Z f with
          | false => rfl
          | true => exact absurd (ht.mpr hzz) hc
        have hib := isNd_b hP (hcell f hfn hz)
        have hgb := gNd_b (l := (l : Int)) hP hfn hib.1
        have hgo : ∀ y : Int, y = gNd P l f (zI s 47 (((Z ||| 2 ^ f : Nat) : Int) * 16 + zla l (pW P f))) → wp S 80 22 [(0, rf 42), (1, iv Z), (2, iv l), (3, iv (min x y)), (4, iv ((f : Int) + 1))] [] s Q := by
          intro y hy
          refine ihm (f + 1) (min x y) (by omega) ?_ (fun g hg hgz => ?_) (by omega) (by omega)
          · rcases Int.le_total x y with h | h
            · rw [Int.min_eq_left h]
              rcases hx with hx | ⟨g, g1, g2, g3⟩
              · exact .inl hx
              · exact .inr ⟨g, by omega, g2, g3⟩
            · rw [Int.min_eq_right h]
              exact .inr ⟨f, by omega, hz, hy⟩
          · by_cases hgf : g = f
            · subst hgf; omega
            · have := hle g (by omega) hgz; omega
        refine ⟨⟨by omega, by omega⟩, ⟨by omega, by omega⟩, ⟨by omega, by omega⟩, fun hn => ?_, fun hn => ?_⟩
        · have hgn : gNd P l f (zI s 47 (((Z ||| 2 ^ f : Nat) : Int) * 16 + zla l (pW P f))) = zup (zI s 47 (((Z ||| 2 ^ f : Nat) : Int) * 16 + zla l (pW P f)) + pL P f) (pA P f) := by unfold gNd; rw [if_neg hn]
          refine ⟨zp8_zp2 p1, by omega, by omega, ⟨by omega, by omega⟩, ⟨by omega, by omega⟩, hgo _ hgn.symm⟩
        · exact ⟨⟨by omega, by omega⟩, hgo _ (by unfold gNd; rw [if_pos hn])⟩
      · have hz := ht.mp hc
        refine ihm (f + 1) x (by omega) ?_ (fun g hg hgz => ?_) h0 h1
        · rcases hx with hx | ⟨g, g1, g2, g3⟩
          · exact .inl hx
          · exact .inr ⟨g, by omega, g2, g3⟩
        · by_cases hgf : g = f
          · subst hgf; rw [hz] at hgz; cases hgz
          · exact hle g (by omega) hgz
  have hsh := shl_tab n (by omega)
  have hfb := full_bits hZ
  refine v_BestOrder_leastNeed_0 ?_
  rw [hb.1, hsh]
  refine ⟨⟨by omega, by omega⟩, fun hc => ?_, fun hc => ?_⟩
  · refine hloop 1048576 (.inr rfl) (fun h => by omega) (fun _ => Classical.byContradiction fun hn => ?_) n 0 1048576 (by omega) (.inl rfl) (fun g hg => absurd hg (Nat.not_lt_zero g)) (by omega) (by omega)
    have := hfb.mpr fun f hf => by
      cases hzz : Nat.testBit Z f with
      | true => rfl
      | false => exact absurd ⟨f, hf, hzz⟩ hn
    omega
  · exact hloop 0 (.inl rfl) (fun _ => hfb.mp (by omega)) (fun h => by omega) n 0 0 (by omega) (.inl rfl) (fun g hg => absurd hg (Nat.not_lt_zero g)) (by omega) (by omega)
theorem C_fill_30 {Z : Nat} {lefts : Nat} (hP : okFp n P) (hZ : Z < 2 ^ n) (hl : lefts ≤ 16) (hl2 : hasB n P Z → lefts = 16) (hl1 : 1 ≤ lefts) (m : Nat) : ∀ (l : Nat) (s : zSt), l + m = lefts → cBo s n P → (∀ Y, Z < Y → Y < 2 ^ n → cNd s n P Y) → (∀ j, j < l → isNd n P Z j (zI s 47 (Z * 16 + j))) → (∀ t, frm (fun a => a = 47) s t → cBo t n P → (∀ Y, Z ≤ Y → Y < 2 ^ n → cNd t n P Y) → wp S 78 9 [(0, rf 42), (1, iv ((Z : Int) + (-1)))] [] t Q) →
    wp S 78 30 [(0, rf 42), (1, iv Z), (2, iv lefts), (3, iv l)] [] s Q := by
  have h8 := hP.1
  have hZ2 : Z < 256 := Nat.lt_of_lt_of_le hZ (Nat.pow_le_pow_right (by decide) h8 : 2 ^ n ≤ 2 ^ 8)
  induction m with
  | zero =>
    intro l s hlm hb hY hj hQ
    refine v_BestOrder_fillNeeds_30 ⟨⟨by omega, by omega⟩, ⟨by omega, by omega⟩, fun _ => hQ s frm_refl hb fun Y y0 y1 => ?_, fun hc => by omega⟩
    by_cases hZY : Y = Z
    · subst hZY
      intro j hj2 hjh
      refine hj j ?_
      rcases hjh with h | h
      · omega
      · have := hl2 h; omega
    · exact hY Y (by omega) y1
  | succ m ihm =>
    intro l s hlm hb hY hj hQ
    refine v_BestOrder_fillNeeds_30 ⟨⟨by omega, by omega⟩, ⟨by omega, by omega⟩, fun hc => by omega, fun _ => ?_⟩
    refine C_least hP hb hZ (by omega) (fun f hf hz => ?_) fun v hv => ?_
    · have hst := set_tab Z hZ2 f (by omega)
      exact hY _ (hst.2.2.2 hz) (Nat.or_lt_two_pow hZ (Nat.pow_lt_pow_right (by decide) hf))
    · have hvb := isNd_b hP hv
      refine zkI_I ⟨by omega, by omega⟩ ⟨⟨by omega, by omega⟩, ?_⟩
      have hf : frm (fun a => a = 47) s (zwI s 47 ((Z : Int) * 16 + l) v) := frm_I frm_refl rfl
      refine ihm (l + 1) _ (by omega) (cBo_fr hb hf ⟨by omega, by omega, by omega, by omega⟩) (fun Y y0 y1 j hj2 hjh => ?_) (fun j hj2 => ?_) fun t hft hbt hYt => hQ t (frm_trans hf hft) hbt hYt
      · rw [zI_nj (by omega)]
        exact hY Y y0 y1 j hj2 hjh
      · by_cases hjl : j = l
        · subst hjl; rw [zI_eq]; exact hv
        · rw [zI_nj (by omega)]; exact hj j (by omega)
theorem C_fill_9 (hP : okFp n P) (m : Nat) : ∀ (s : zSt), m ≤ 2 ^ n → cBo s n P → (∀ Y, m ≤ Y → Y < 2 ^ n → cNd s n P Y) → (∀ t, frm (fun a => a = 47) s t → cBo t n P → cNd t n P 0 → (∀ Y, Y < 2 ^ n → cNd t n P Y) → Q rU t) →
    wp S 78 9 [(0, rf 42), (1, iv ((m : Int) - 1))] [] s Q := by
  have h8 := hP.1
  have h256 : 2 ^ n ≤ 2 ^ 8 := Nat.pow_le_pow_right (by decide) h8
  rw [show 2 ^ 8 = 256 from rfl] at h256
  have hpos := Nat.two_pow_pos n
  induction m with
  | zero =>
    intro s hm hb hY hQ
    exact v_BestOrder_fillNeeds_9 ⟨⟨by omega, by omega⟩, fun _ => hQ s frm_refl hb (hY 0 (by omega) hpos) fun Y y => hY Y (by omega) y, fun hc => by omega⟩
  | succ m ihm =>
    intro s hm hb hY hQ
    have hgo : ∀ lefts : Nat, lefts ≤ 16 → (hasB n P m → lefts = 16) → 1 ≤ lefts → wp S 78 30 [(0, rf 42), (1, iv (m : Int)), (2, iv lefts), (3, iv 0)] [] s Q := fun lefts q1 q2 q3 =>
      C_fill_30 hP (by omega) q1 q2 q3 lefts 0 s (by omega) hb (fun Y y0 y1 => hY Y (by omega) y1) (fun j hj => absurd hj (Nat.not_lt_zero j)) fun t hft hbt hYt => by
        have hz := ihm t (by omega) hbt (fun Y y0 y1 => hYt Y y0 y1) fun v hfv hbv h0v hYv => hQ v (frm_trans hft hfv) hbv h0v hYv
        rw [show (m : Int) - 1 = (m : Int) + (-1) by omega] at hz
        exact hz
    rw [show ((m + 1 : Nat) : Int) - 1 = (m : Int) by omega]
    refine v_BestOrder_fillNeeds_9 ⟨⟨by omega, by omega⟩, fun hc => by omega, fun _ => v_BestOrder_hasBits_0 (C_hasBits hP hb (by omega) (zkI_I (bi_rng _) ⟨fun h0 => ?_, fun h0 => ?_⟩) n 0 (by omega) fun g hg => absurd hg (Nat.not_lt_zero g))⟩
    · exact hgo 1 (by omega) (fun hh => absurd hh (bi_0.mp h0)) (by omega)
    · exact hgo 16 (by omega) (fun _ => rfl) (by omega)
theorem C_fillNeeds (hP : okFp n P) (hb : cBo s n P) (k1 : ∀ t, frm (fun a => a = 47) s t → cBo t n P → (∀ Y, Y < 2 ^ n → cNd t n P Y) → Q rU t) : wp S 78 0 [(0, rf 42)] [] s Q := by
  have h8 := hP.1
  refine v_BestOrder_fillNeeds_0 ?_
  rw [hb.1, shl_tab n (by omega)]
  exact C_fill_9 hP (2 ^ n) s (Nat.le_refl _) hb (fun Y y0 y1 => by omega) fun t hft hbt _ hYt => k1 t hft hbt hYt
end BOS
