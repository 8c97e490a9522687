/-! ===== paths, and what is known of a leaf ===== -/
def zlv (p : Int × Int) : List Int := if p.2 = 0 then [p.1] else [p.1, 91, 47 + p.2, 93]
def pbs : List (Int × Int) → List Int
  | [] => []
  | p :: r => zlv p ++ (if r = [] then [] else 46 :: pbs r)
def dl : yLf := (0, 0, 0, 0, [])
theorem getD_mem {α : Type} {L : List α} {i : Nat} {d : α} (h : i < L.length) : L.getD i d ∈ L := by
  rw [List.getD_eq_getElem?_getD, List.getElem?_eq_getElem h]
  exact List.getElem_mem h
theorem getD_app1 {α : Type} {L L' : List α} {i : Nat} {d : α} (h : i < L.length) : (L ++ L').getD i d = L.getD i d := by
  rw [List.getD_eq_getElem?_getD, List.getD_eq_getElem?_getD, List.getElem?_append_left h]
theorem getD_app2 {α : Type} {L L' : List α} {i : Nat} {d : α} (h : L.length ≤ i) : (L ++ L').getD i d = L'.getD (i - L.length) d := by
  rw [List.getD_eq_getElem?_getD, List.getD_eq_getElem?_getD, List.getElem?_append_right h]
theorem getD_map {α β : Type} {L : List α} {f : α → β} {i : Nat} {d : α} {d' : β} (h : i < L.length) : (L.map f).getD i d' = f (L.getD i d) := by
  rw [List.getD_eq_getElem?_getD, List.getD_eq_getElem?_getD, List.getElem?_map, List.getElem?_eq_getElem h]
  rfl
theorem zlv_len (p : Int × Int) : 1 ≤ (zlv p).length ∧ (zlv p).length ≤ 4 := by
  unfold zlv
  split
  · exact ⟨by show 1 ≤ 1; decide, by show 1 ≤ 4; decide⟩
  · exact ⟨by show 1 ≤ 4; decide, by show 4 ≤ 4; decide⟩
theorem pbs_len : ∀ L : List (Int × Int), (pbs L).length + 1 ≤ 5 * L.length + (if L = [] then 1 else 0) := by
  intro L
  induction L with
  | nil => decide
  | cons p r ihr =>
    have hz := zlv_len p
    unfold pbs
    by_cases hr : r = []
    · subst hr
      simp
      omega
    · rw [if_neg hr] at ihr ⊢
      simp only [List.length_append, List.length_cons]
      rw [if_neg (by simp)]
      omega
/-- a leaf of a record: depth, end -/
def okL (d : Nat) (e : Int) (l : yLf) : Prop :=
  ((0 ≤ lT l ∧ lT l ≤ 7) ∨ (21 ≤ lT l ∧ lT l ≤ 36)) ∧ (0 ≤ lA l ∧ lA l + zby (lT l) ≤ e) ∧ (0 ≤ lB l ∧ lB l + zwd (lT l) ≤ 16 ∧ (zwd (lT l) = 0 → lB l = 0)) ∧ (0 ≤ lF l ∧ lF l < 8) ∧ (1 ≤ (lP l).length ∧ (lP l).length ≤ d) ∧ ∀ p ∈ lP l, 97 ≤ p.1 ∧ p.1 ≤ 122 ∧ 0 ≤ p.2 ∧ p.2 ≤ 4
theorem okL_mono {d d' : Nat} {e e' : Int} {l : yLf} (h : okL d e l) (hd : d ≤ d') (he : e ≤ e') : okL d' e' l :=
  ⟨h.1, ⟨h.2.1.1, by have := h.2.1.2; omega⟩, h.2.2.1, h.2.2.2.1, ⟨h.2.2.2.2.1.1, by have := h.2.2.2.2.1.2; omega⟩, h.2.2.2.2.2⟩
theorem gst_in {own w len e l : Int} (ho : zp8 own) (h0 : 0 ≤ e) (hl : 0 ≤ l ∧ l ≤ 16 ∧ (0 < l → 2 ≤ e)) (hw : 0 ≤ w ∧ w ≤ 16) (hlen : 0 ≤ len) :
    0 ≤ (gst own w len e l).1 ∧ e ≤ (gst own w len e l).2.2.1 ∧ (0 < w → (gst own w len e l).1 + 2 ≤ (gst own w len e l).2.2.1 ∧ 0 ≤ (gst own w len e l).2.1 ∧ (gst own w len e l).2.1 + w ≤ 16) ∧ (w = 0 → (gst own w len e l).1 + len ≤ (gst own w len e l).2.2.1 ∧ (gst own w len e l).2.1 = 0) := by
  have hb := zup_b (e := e) ho
  unfold gst
  split
  · split
    · refine ⟨?_, ?_, fun _ => ⟨?_, ?_, ?_⟩, fun hc => ?_⟩ <;> dsimp only <;> omega
    · refine ⟨?_, ?_, fun _ => ⟨?_, ?_, ?_⟩, fun hc => ?_⟩ <;> dsimp only <;> omega
  · refine ⟨?_, ?_, fun hc => ?_, fun _ => ⟨?_, ?_⟩⟩
    · dsimp only; omega
    · dsimp only; omega
    · omega
    · dsimp only; omega
    · rfl
theorem zby_le {t : Int} (h : 21 ≤ t ∧ t ≤ 36) : zby t = 2 := zby_out (by omega)
theorem zwd_pos {t : Int} (h : 21 ≤ t ∧ t ≤ 36) : zwd t = t - 20 := by unfold zwd; rw [if_pos h]
theorem zwd_0 {t : Int} (h : ¬ (21 ≤ t ∧ t ≤ 36)) : zwd t = 0 := by unfold zwd; rw [if_neg h]
/-- leaves of an element -/
theorem lvOf_ok {N : Int → ySh} {nm t c f off bit e : Int} {el d : Nat} (hN : 100 ≤ t → gOK (N (t - 100)) ∧ ∀ l ∈ gV (N (t - 100)), okL d (gE (N (t - 100))) l) (ht : (0 ≤ t ∧ t ≤ 7) ∨ (21 ≤ t ∧ t ≤ 36) ∨ 100 ≤ t) (hnm : 97 ≤ nm ∧ nm ≤ 122) (hc : 1 ≤ c ∧ c ≤ 4) (hel : (el : Int) < c) (hb : 21 ≤ t → t ≤ 36 → c = 1) (hf : 0 ≤ f ∧ f < 8) (ho : 0 ≤ off)
    (h1 : 0 < zwd t → off + 2 ≤ e ∧ 0 ≤ bit ∧ bit + zwd t ≤ 16) (h2 : zwd t = 0 → off + c * tyB N t ≤ e ∧ bit = 0) : ∀ l ∈ lvOf N nm t c f off bit el, okL (d + 1) e l := by
  have hix : 0 ≤ zix c el ∧ zix c el ≤ 4 := by unfold zix; split <;> omega
  intro l hl
  unfold lvOf at hl
  by_cases h100 : t < 100
  · rw [if_pos h100] at hl
    have hle := List.mem_singleton.mp hl
    subst hle
    have hz := zp8_b (zby_8 t)
    refine ⟨by show (0 ≤ t ∧ t ≤ 7) ∨ (21 ≤ t ∧ t ≤ 36); omega, ⟨?_, ?_⟩, ⟨?_, ?_, ?_⟩, hf, ⟨by show 1 ≤ 1; omega, by show 1 ≤ d + 1; omega⟩, ?_⟩
    · show 0 ≤ off + el * zby t
      have := Int.mul_nonneg (Int.natCast_nonneg el) (by omega : 0 ≤ zby t)
      omega
    · show off + el * zby t + zby t ≤ e
      by_cases hbt : 21 ≤ t ∧ t ≤ 36
      · have h3 := hb hbt.1 hbt.2
        have h4 : (el : Int) = 0 := by omega
        rw [h4, zby_le hbt]
        have := h1 (by rw [zwd_pos hbt]; omega)
        omega
      · have h3 := (h2 (zwd_0 hbt)).1
        have h4 : ((el : Int) + 1) * zby t ≤ c * zby t := Int.mul_le_mul_of_nonneg_right (by omega) (by omega)
        rw [Int.add_mul] at h4
        have h5 : tyB N t = zby t := by unfold tyB zel; rw [if_pos h100]
        rw [h5] at h3
        omega
    · show 0 ≤ bit
      by_cases hbt : 0 < zwd t
      · exact (h1 hbt).2.1
      · have := h2 (by have := zwd_b t; omega); omega
    · show bit + zwd t ≤ 16
      by_cases hbt : 0 < zwd t
      · exact (h1 hbt).2.2
      · have := h2 (by have := zwd_b t; omega); have := zwd_b t; omega
    · intro hbt
      exact (h2 hbt).2
    · intro p hp
      have hpe := List.mem_singleton.mp hp
      subst hpe
      exact ⟨hnm.1, hnm.2, hix.1, hix.2⟩
  · rw [if_neg h100] at hl
    obtain ⟨l0, hl0, hle⟩ := List.mem_map.mp hl
    subst hle
    obtain ⟨⟨g1, g2, g3, g4⟩, g5⟩ := hN (by omega)
    obtain ⟨k1, k2, k3, k4, k5, k6⟩ := g5 l0 hl0
    have h3 := (h2 (zwd_0 (by omega))).1
    have h5 : tyB N t = gS (N (t - 100)) := by unfold tyB zel; rw [if_neg h100]
    rw [h5] at h3
    have hy : gE (N (t - 100)) ≤ gS (N (t - 100)) := (zup_b g2).1
    have h4 : ((el : Int) + 1) * gS (N (t - 100)) ≤ c * gS (N (t - 100)) := Int.mul_le_mul_of_nonneg_right (by omega) (by omega)
    rw [Int.add_mul] at h4
    have h6 := Int.mul_nonneg (Int.natCast_nonneg el) (by omega : 0 ≤ gS (N (t - 100)))
    refine ⟨k1, ⟨?_, ?_⟩, k3, hf, ⟨by show 1 ≤ (lP l0).length + 1; omega, by show (lP l0).length + 1 ≤ d + 1; omega⟩, ?_⟩
    · show 0 ≤ off + el * gS (N (t - 100)) + lA l0
      omega
    · show off + el * gS (N (t - 100)) + lA l0 + zby (lT l0) ≤ e
      omega
    · intro p hp
      rcases List.mem_cons.mp hp with hpe | hp
      · subst hpe
        exact ⟨hnm.1, hnm.2, hix.1, hix.2⟩
      · exact k6 p hp
theorem plc_leaf {N : Int → ySh} {pack nm t c : Int} {G : ySh} {d : Nat} (hG : gOK G) (hV : ∀ l ∈ gV G, okL (d + 1) (gE G) l) (hQ : (gQ G).length < 8) (hN : 100 ≤ t → (gOK (N (t - 100)) ∧ 1 ≤ (gV (N (t - 100))).length) ∧ ∀ l ∈ gV (N (t - 100)), okL d (gE (N (t - 100))) l) (hp : zp8 pack) (ht : (0 ≤ t ∧ t ≤ 7) ∨ (21 ≤ t ∧ t ≤ 36) ∨ 100 ≤ t) (hnm : 97 ≤ nm ∧ nm ≤ 122) (hc : 1 ≤ c ∧ c ≤ 4) (hb : 21 ≤ t → t ≤ 36 → c = 1) :
    ∀ l ∈ gV (plc N pack nm t c G), okL (d + 1) (gE (plc N pack nm t c G)) l := by
  obtain ⟨t1, t2, t3, t4⟩ := ty_ok (N := N) (t := t) fun h => (hN h).1
  obtain ⟨g1, g2, g3, g4⟩ := hG
  have hst := gst_in (own := min (tyA N t) pack) (w := zwd t) (len := c * tyB N t) (e := gE G) (l := gL G) (zp8_min t1 hp) g1.1 g3 (zwd_b t) (Int.mul_nonneg (by omega) t2.1)
  intro l hl
  rcases List.mem_append.mp (show l ∈ gV G ++ lvsOf _ _ _ _ _ _ _ _ from hl) with hl | hl
  · exact okL_mono (hV l hl) (Nat.le_refl _) hst.2.1
  · obtain ⟨el, hel, hle⟩ := List.mem_flatMap.mp hl
    have hlt := List.mem_range.mp hel
    exact lvOf_ok (fun h => ⟨(hN h).1.1, (hN h).2⟩) ht hnm hc (by omega) hb ⟨by omega, by omega⟩ hst.1 hst.2.2.1 hst.2.2.2 l hle
theorem gN_leaf {N : Int → ySh} {pack : Int} {F : Nat → Int × Int × Int} {d : Nat} (hp : zp8 pack) : ∀ n : Nat, n ≤ 8 → (∀ k, k < n → (100 ≤ (F k).2.1 → (gOK (N ((F k).2.1 - 100)) ∧ 1 ≤ (gV (N ((F k).2.1 - 100))).length) ∧ ∀ l ∈ gV (N ((F k).2.1 - 100)), okL d (gE (N ((F k).2.1 - 100))) l) ∧ ((0 ≤ (F k).2.1 ∧ (F k).2.1 ≤ 7) ∨ (21 ≤ (F k).2.1 ∧ (F k).2.1 ≤ 36) ∨ 100 ≤ (F k).2.1) ∧ (97 ≤ (F k).1 ∧ (F k).1 ≤ 122) ∧ (1 ≤ (F k).2.2 ∧ (F k).2.2 ≤ 4) ∧ (21 ≤ (F k).2.1 → (F k).2.1 ≤ 36 → (F k).2.2 = 1)) → ∀ l ∈ gV (gN N pack F n), okL (d + 1) (gE (gN N pack F n)) l := by
  intro n
  induction n with
  | zero => intro _ _ l hl; cases hl
  | succ n ihn =>
    intro hn hk
    obtain ⟨k1, k2, k3, k4, k5⟩ := hk n (by omega)
    exact plc_leaf (gN_ok hp n fun k h => ⟨fun h' => ((hk k (by omega)).1 h').1, (hk k (by omega)).2.2.2.1, (hk k (by omega)).2.2.2.2⟩).1 (ihn (by omega) fun k h => hk k (by omega)) (by rw [gQ_len]; omega) k1 hp k2 k3 k4 k5
theorem shp_leaf {D : Int → Int} (hD : okD D) : ∀ n : Nat, ∀ r : Int, r = n → r < D 0 → ∀ l ∈ gV (shp D r), okL (n + 1) (gE (shp D r)) l := by
  intro n
  induction n using Nat.strongRecOn with
  | ind n ihn =>
    intro r hr h1
    obtain ⟨o1, o2, o3, -⟩ := hD.2 r (by omega) h1
    rw [shp_eq (by omega) fun f q0 q1 => (o3 f q0 q1).2.1]
    refine gN_leaf o1 _ (by omega) fun k hk => ?_
    obtain ⟨f1, f2, f3, f4⟩ := o3 k (by omega) (by omega)
    refine ⟨fun ht => ?_, ?_, f1, f3, f4⟩
    · have hz := okT_in f2 ht
      have ht2 : 100 ≤ dTy D r k := ht
      have hi := ihn (dTy D r k - 100).toNat (by omega) (dTy D r k - 100) (by omega) (by omega)
      have ho := shp_OK hD (r := dTy D r k - 100) (by omega) (by omega)
      exact ⟨⟨ho.1, ho.2.1 hz.2.2⟩, fun l hl => okL_mono (hi l hl) (by omega) (Int.le_refl _)⟩
    · rcases f2 with h | h | h
      · exact .inl h
      · exact .inr (.inl h)
      · exact .inr (.inr h.1)
theorem shp_L {D : Int → Int} (hD : okD D) {r : Int} (h0 : 0 ≤ r) (h1 : r < D 0) : ∀ l ∈ gV (shp D r), okL 6 (gE (shp D r)) l := fun l hl =>
  okL_mono (shp_leaf hD r.toNat r (by omega) h1 l hl) (by have := hD.1; omega) (Int.le_refl _)
theorem okL_path {d : Nat} {e : Int} {l : yLf} (h : okL d e l) (hd : d ≤ 6) : (pbs (lP l)).length ≤ 29 := by
  have h1 := h.2.2.2.2.1
  have h2 := pbs_len (lP l)
  rw [if_neg (by intro hc; rw [hc] at h1; exact absurd h1.1 (by decide))] at h2
  omega
