/-! ===== addField of the class ===== -/
section OPS16
variable {S : Option (Nat × (Nat → Int32))} {Q : Option Value ⊕ Nat → zSt → Prop} {s : zSt} {D : Int → Int} {H : List (Int → Int)} {T : List Int}
theorem X_leavesOf {r ty : Int} (hA : okA D) (h : cRel s D H T) (hr : hasRc D r) (hty : rng ty) (ht : okT D r ty) (k1 : Q (rI (tyL (shp D) ty)) s) : wp S 57 0 [(0, rf 2), (1, iv ty)] [] s Q := by
  have hD0 := hA.1.1
  have e0 : zI s 3 0 = D 0 := h.1.1
  have hr1 := hr.2
  have h106 := okT_106 ht (by omega)
  refine v_RL_leavesOfType_0 (C_shapeOfType ⟨hty, by omega⟩ (by omega) fun o ho => ⟨_, ho, ?_⟩)
  by_cases h100 : 100 ≤ ty
  · have hin := okT_in ht h100
    rw [if_pos ⟨h100, by omega⟩]
    refine ⟨fun _ => isO_shape ⟨hin.1, by omega⟩, fun _ => ?_, fun hc => by omega⟩
    have hz := (h.2.1 (ty - 100) hin.1 (by omega)).2.2.2.2.2.1
    rw [hz]
    unfold tyL at k1
    rw [if_neg (by omega)] at k1
    exact k1
  · rw [if_neg (fun hq => h100 hq.1)]
    refine ⟨fun hc => absurd hc (by decide), fun hc => absurd hc (by decide), fun _ => ?_⟩
    unfold tyL at k1
    rw [if_pos (by omega)] at k1
    exact k1
theorem X_addField {r nm ty ct : Int} (hA : okA D) (hH : okHs H) (h : cRel s D H T) (hr : rng r) (hnm : rng nm) (hty : rng ty) (hct : rng ct) (k1 : ¬ hasRc D r → Q (rT 2) (zbump s)) (k2 : hasRc D r → ¬ argF D r nm ty ct → Q (rT 0) (zbump s))
    (k3 : hasRc D r → argF D r nm ty ct → ¬ staF D r ty ct → Q (rT 1) (zbump s)) (k4 : hasRc D r → argF D r nm ty ct → staF D r ty ct → ∀ u, frm clsC s u → cRel u (addD D r nm ty ct) (pushH H D) T → Q (rI (dN D r + 1)) u) : wp S 53 0 [(0, rf 2), (1, iv r), (2, iv nm), (3, iv ty), (4, iv ct)] [] s Q := by
  have hD0 := hA.1.1
  have e0 : zI s 3 0 = D 0 := h.1.1
  refine v_RL_addField_0 ⟨hr, fun hc => ?_, fun hc => k1 fun hh => hc ⟨hh.1, by have := hh.2; omega⟩⟩
  have hh : hasRc D r := ⟨hc.1, by omega⟩
  have hr0 := hh.1
  have hr1 := hh.2
  have hn8 := (hA.1.2 r hh.1 hh.2).2.1
  have hbad := k2 hh
  have en : zI s (7 + 4 * r) 1 = dN D r := by
    have hz := (h.1.2.1 r hh.1 hh.2).2.1
    rw [show (3 : Int) + 4 + 4 * r = 7 + 4 * r by omega] at hz
    exact hz
  have el : zI s (67 + 11 * r) 0 = ((gV (shp D r)).length : Int) := by
    have hz := (h.2.1 r hh.1 hh.2).2.2.2.2.2.1
    rw [show (62 : Int) + 11 * r + 5 = 67 + 11 * r by omega] at hz
    exact hz
  have htest : ((0 ≤ ty ∧ ty ≤ 7) ∨ (20 < ty ∧ ty ≤ 36) ∨ (0 ≤ ty - 100 ∧ ty - 100 < r ∧ 0 < zI s (7 + 4 * (ty - 100)) 1)) ↔ okT D r ty := by
    have hv : 0 ≤ ty - 100 → ty - 100 < r → zI s (7 + 4 * (ty - 100)) 1 = dN D (ty - 100) := fun q0 q1 => by
      have hz := (h.1.2.1 (ty - 100) q0 (by omega)).2.1
      rw [show (3 : Int) + 4 + 4 * (ty - 100) = 7 + 4 * (ty - 100) by omega] at hz
      exact hz
    unfold okT
    constructor
    · rintro (g | g | g)
      · exact .inl g
      · exact .inr (.inl ⟨by omega, g.2⟩)
      · exact .inr (.inr ⟨by omega, by omega, by have := hv g.1 g.2.1; omega⟩)
    · rintro (g | g | g)
      · exact .inl g
      · exact .inr (.inl ⟨by omega, g.2⟩)
      · exact .inr (.inr ⟨by omega, by omega, by have := hv (by omega) (by omega); omega⟩)
  refine ⟨⟨by omega, by omega⟩, hnm, fun h97 => hbad fun ha => by have := ha.1.1.1; omega, fun h97 => ⟨fun h122 => hbad fun ha => by have := ha.1.1.2; omega, fun h122 => C_hasName hA h.1 hh hnm (zkI_I (bi_rng _) ⟨fun h0 => ?_, fun h0 => hbad fun ha => h0 (bi_0.mpr ha.1.2)⟩)⟩⟩
  have hno := bi_0.mp h0
  refine ⟨hty, by omega, fun q0 q1 => by omega, fun ht => ?_, fun ht => hbad fun ha => ht (htest.mpr ha.2.1)⟩
  have hT := htest.mp ht
  have hgo : 1 ≤ ct ∧ ct ≤ 4 → (21 ≤ ty → ty ≤ 36 → ct = 1) → wp S 57 0 [(0, rf 2), (1, iv ty)] [] s (fun o24 s24 => zkI (fun y24 => (8 ≤ (zI s24 (7 + 4 * r) 1) → Q (rT 1) (zbump s24)) ∧ ((zI s24 (7 + 4 * r) 1) < 8 → wp S 30 0 [(0, rf 2), (1, iv r)] [] s24 (fun o28 s28 => zkI (fun y28 => (y28 ≠ 0 → Q (rT 1) (zbump s28)) ∧ (y28 = 0 → rng ((zI s (67 + 11 * r) 0) + (ct * y24)) ∧ ((((zI s (67 + 11 * r) 0) + (ct * y24)) ≤ 40 → wp S 18 0 [(0, rf 2)] [] s28 (fun o33 s33 => zkU (wp S 21 0 [(0, rf (7 + 4 * r)), (1, iv nm), (2, iv ty), (3, iv ct)] [] s33 (fun o35 s35 => zkU (wp S 41 0 [(0, rf 2), (1, iv r), (2, iv ((zI s35 (7 + 4 * r) 1) - 1))] [] s35 (fun o38 s38 => zkU (Q (rI (zI s38 (7 + 4 * r) 1)) s38) (fun e38 => False) o38)) (fun e35 => False) o35)) (fun e33 => False) o33)) ∧ (40 < ((zI s (67 + 11 * r) 0) + (ct * y24)) → Q (rT 1) (zbump s28))))) (fun e28 => False) o28))) (fun e24 => False) o24) := fun hc4 hc5 => by
    have ha : argF D r nm ty ct := ⟨⟨⟨h97, h122⟩, hno⟩, hT, hc4, hc5⟩
    obtain ⟨s1, s2⟩ := add_sum hA hh hT hc4
    have hL : rng (tyL (shp D) ty : Int) := by
      have h2 : (tyL (shp D) ty : Int) ≤ ct * (tyL (shp D) ty : Int) := by
        have := Int.mul_le_mul_of_nonneg_right hc4.1 (show (0 : Int) ≤ (tyL (shp D) ty : Int) by omega)
        omega
      have h3 := s2.2
      exact ⟨by omega, by omega⟩
    refine X_leavesOf hA h hh hty hT (zkI_I hL ⟨fun h8 => k3 hh ha fun hst => by have := hst.1; omega, fun h8 => C_inUse hA h.1 ⟨by omega, by omega⟩ (zkI_I (bi_rng _) ⟨fun hu => k3 hh ha fun hst => hu (bi_0.mpr hst.2.1), fun hu => ?_⟩)⟩)
    have hnu := bi_0.mp hu
    rw [el]
    exact ⟨s2, fun h40 => X_addStores hA hH h hh hnm hty hct ha ⟨by omega, hnu, by omega⟩ (k4 hh ha ⟨by omega, hnu, by omega⟩), fun h40 => k3 hh ha fun hst => by have := hst.2.2; omega⟩
  refine ⟨hct, fun hc1 => hbad fun ha => by have := ha.2.2.1.1; omega, fun hc1 => ⟨fun hb => ⟨fun hc2 => ?_, fun hc2 => hbad fun ha => by have := ha.2.2.1.2; omega⟩, fun hb => ⟨fun hc2 => ?_, fun hc2 => hbad fun ha => by have := ha.2.2.2 (by omega) hb.2; omega⟩⟩⟩
  · exact hgo ⟨hc1, hc2⟩ fun q0 q1 => absurd ⟨by omega, q1⟩ hb
  · exact hgo ⟨hc1, by omega⟩ fun q0 q1 => by omega
end OPS16
