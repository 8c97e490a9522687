/-! ===== the best order ===== -/
def bP (D : Int → Int) (r : Int) (f : Nat) : Int × Int × Int := (min (tyA (shp D) (dTy D r f)) (dP D r), zwd (dTy D r f), dCt D r f * tyB (shp D) (dTy D r f))
theorem bP_ok {D : Int → Int} {r : Int} (hF : okFs D r) : okFp (dN D r).toNat (bP D r) := by
  refine ⟨by have := hF.2.2.1; omega, fun f hf => ?_⟩
  have h1 := hF.2.2.2 f (by omega) (by omega)
  exact ⟨zp8_min h1.2.1 hF.2.1, zwd_b _, h1.2.2⟩
theorem bP_bits {D : Int → Int} {r : Int} (hF : okFs D r) {f : Nat} (hf : f < (dN D r).toNat) (hw : 0 < pW (bP D r) f) : pL (bP D r) f = 2 := by
  have h1 := (hF.2.2.2 f (by omega) (by omega)).1
  have hw2 : 0 < zwd (dTy D r f) := hw
  have ht : 21 ≤ dTy D r f ∧ dTy D r f ≤ 36 := by
    refine Classical.byContradiction fun hn => ?_
    rw [zwd_0 hn] at hw2
    omega
  show dCt D r f * tyB (shp D) (dTy D r f) = 2
  rw [h1.2.2.2 ht.1 ht.2]
  unfold tyB zel
  rw [if_pos (by omega), zby_le ht]
  rfl
theorem gst_f {P : Nat → Int × Int × Int} {e l : Int} {f : Nat} (hw : 0 ≤ pW P f) (hb : 0 < pW P f → pL P f = 2) : (gst (pA P f) (pW P f) (pL P f) e l).2.2.1 = fEn P e l f ∧ (gst (pA P f) (pW P f) (pL P f) e l).2.2.2 = zla l (pW P f) := by
  unfold gst fEn zla
  by_cases h0 : 0 < pW P f
  · by_cases h1 : pW P f ≤ l
    · rw [if_pos h0, if_pos h1, if_pos ⟨h0, h1⟩, if_neg (by omega), if_pos h1]
      exact ⟨rfl, rfl⟩
    · rw [if_pos h0, if_neg h1, if_neg (fun h => h1 h.2), if_neg (by omega), if_neg h1, hb h0]
      exact ⟨rfl, rfl⟩
  · rw [if_neg h0, if_neg (fun h => h0 h.1), if_pos (by omega)]
    exact ⟨rfl, rfl⟩
theorem plo_st {D : Int → Int} {r : Int} {o : Nat → Int} (hF : okFs D r) : ∀ k : Nat, (∀ j, j < k → 0 ≤ o j ∧ o j < dN D r) → (plo (shp D) (dP D r) (fTc D r) o k).1 = (stP (bP D r) o k).1 ∧ (plo (shp D) (dP D r) (fTc D r) o k).2.1 = (stP (bP D r) o k).2 := by
  intro k
  induction k with
  | zero => intro _; exact ⟨rfl, rfl⟩
  | succ k ihk =>
    intro h
    obtain ⟨i1, i2⟩ := ihk fun j hj => h j (by omega)
    have hk := h k (by omega)
    have hlt : (o k).toNat < (dN D r).toNat := by omega
    have hg := gst_f (P := bP D r) (e := (stP (bP D r) o k).1) (l := (stP (bP D r) o k).2) (f := (o k).toNat) ((bP_ok hF).2 _ hlt).2.1.1 (bP_bits hF hlt)
    have hc : (((o k).toNat : Nat) : Int) = o k := Int.toNat_of_nonneg hk.1
    unfold plo stP
    rw [i1, i2]
    unfold bP pA pW pL at hg
    dsimp only at hg
    rw [hc] at hg
    unfold fTc bP pW
    dsimp only
    rw [hc]
    exact hg
theorem plo_al {D : Int → Int} {r : Int} {o : Nat → Int} : ∀ k : Nat, (∀ j, j < k → 0 ≤ o j) → 1 ≤ (plo (shp D) (dP D r) (fTc D r) o k).2.2 ∧ (∀ j, j < k → pA (bP D r) (o j).toNat ≤ (plo (shp D) (dP D r) (fTc D r) o k).2.2) ∧ ((plo (shp D) (dP D r) (fTc D r) o k).2.2 = 1 ∨ ∃ j, j < k ∧ (plo (shp D) (dP D r) (fTc D r) o k).2.2 = pA (bP D r) (o j).toNat) := by
  intro k
  induction k with
  | zero => intro _; exact ⟨by show (1 : Int) ≤ 1; omega, fun j hj => absurd hj (Nat.not_lt_zero j), .inl rfl⟩
  | succ k ihk =>
    intro h
    obtain ⟨i1, i2, i3⟩ := ihk fun j hj => h j (by omega)
    have e : (plo (shp D) (dP D r) (fTc D r) o (k + 1)).2.2 = max (plo (shp D) (dP D r) (fTc D r) o k).2.2 (pA (bP D r) (o k).toNat) := by
      show max _ (min (tyA (shp D) (fTc D r (o k)).1) (dP D r)) = max _ (min (tyA (shp D) (dTy D r (((o k).toNat : Nat) : Int))) (dP D r))
      rw [Int.toNat_of_nonneg (h k (by omega))]
      rfl
    rw [e]
    refine ⟨by omega, fun j hj => ?_, ?_⟩
    · by_cases hjk : j = k
      · subst hjk; omega
      · have := i2 j (by omega); omega
    · rcases Int.le_total (plo (shp D) (dP D r) (fTc D r) o k).2.2 (pA (bP D r) (o k).toNat) with hc | hc
      · exact .inr ⟨k, by omega, Int.max_eq_right hc⟩
      · rw [Int.max_eq_left hc]
        rcases i3 with h3 | ⟨j, j1, j2⟩
        · exact .inl h3
        · exact .inr ⟨j, by omega, j2⟩
theorem pm_surj {n : Nat} {o : Nat → Int} (h : isPm n o) {f : Nat} (hf : f < n) : ∃ j, j < n ∧ o j = (f : Int) := by
  have hd : ((List.range n).map fun j => (o j).toNat).Nodup := by
    refine List.pairwise_map.mpr (List.Pairwise.imp_of_mem (fun {a b} ha hb hne hc => ?_) (List.nodup_range (n := n)))
    have h1 := h.1 a (List.mem_range.mp ha)
    have h2 := h.1 b (List.mem_range.mp hb)
    exact hne (h.2 a b (List.mem_range.mp ha) (List.mem_range.mp hb) (by omega))
  have hm := nd_all hd (fun x hx => by
    obtain ⟨j, j1, j2⟩ := List.mem_map.mp hx
    have h1 := h.1 j (List.mem_range.mp j1)
    have j2 : (o j).toNat = x := j2
    omega) (by rw [List.length_map, List.length_range]) hf
  obtain ⟨j, j1, j2⟩ := List.mem_map.mp hm
  have h1 := h.1 j (List.mem_range.mp j1)
  have j2 : (o j).toNat = f := j2
  exact ⟨j, List.mem_range.mp j1, by omega⟩
/-- the alignment is the same in each order -/
theorem plo_W {D : Int → Int} {r : Int} {o : Nat → Int} (hF : okFs D r) (ho : isPm (dN D r).toNat o) : (plo (shp D) (dP D r) (fTc D r) o (dN D r).toNat).2.2 = gW (shp D r) := by
  have hid : (plo (shp D) (dP D r) (fTc D r) (fun k => (k : Int)) (dN D r).toNat).2.2 = gW (shp D r) := by
    rw [plo_id (dN D r).toNat fun j _ => rfl, shp_eq hF.1.1 fun f q0 q1 => (hF.2.2.2 f q0 q1).1.2.1]
  rw [← hid]
  obtain ⟨a1, a2, a3⟩ := plo_al (D := D) (r := r) (o := o) (dN D r).toNat fun j hj => (ho.1 j hj).1
  obtain ⟨b1, b2, b3⟩ := plo_al (D := D) (r := r) (o := fun k => (k : Int)) (dN D r).toNat fun j hj => Int.natCast_nonneg j
  have hab : (plo (shp D) (dP D r) (fTc D r) o (dN D r).toNat).2.2 ≤ (plo (shp D) (dP D r) (fTc D r) (fun k => (k : Int)) (dN D r).toNat).2.2 := by
    rcases a3 with h | ⟨j, j1, j2⟩
    · omega
    · have h1 := ho.1 j j1
      have h2 := b2 (o j).toNat (by omega)
      rw [Int.toNat_natCast] at h2
      omega
  have hba : (plo (shp D) (dP D r) (fTc D r) (fun k => (k : Int)) (dN D r).toNat).2.2 ≤ (plo (shp D) (dP D r) (fTc D r) o (dN D r).toNat).2.2 := by
    rcases b3 with h | ⟨j, j1, j2⟩
    · omega
    · obtain ⟨i, i1, i2⟩ := pm_surj ho j1
      have h2 := a2 i i1
      rw [i2] at h2
      omega
  omega
theorem finO_st {D : Int → Int} {r : Int} {o : Nat → Int} (hF : okFs D r) (ho : isPm (dN D r).toNat o) : finO D r o = zup (stP (bP D r) o (dN D r).toNat).1 (gW (shp D r)) := by
  unfold finO
  rw [plo_W hF ho, (plo_st hF (dN D r).toNat fun j hj => by have := ho.1 j hj; have := hF.2.2.1; omega).1]
theorem W_ge {D : Int → Int} {r : Int} (hF : okFs D r) {f : Nat} (hf : f < (dN D r).toNat) : pA (bP D r) f ≤ gW (shp D r) := by
  have hid : isPm (dN D r).toNat (fun k => (k : Int)) := ⟨fun k hk => ⟨Int.natCast_nonneg k, by show (k : Int) < _; omega⟩, fun j k _ _ h => by have h : (j : Int) = k := h; omega⟩
  have h1 := (plo_al (D := D) (r := r) (o := fun k => (k : Int)) (dN D r).toNat fun j _ => Int.natCast_nonneg j).2.1 f hf
  rw [plo_W hF hid, Int.toNat_natCast] at h1
  exact h1
theorem dvd_W {a w t : Int} (ha : zp8 a) (hw : zp8 w) (h : a ≤ w) (ht : t % w = 0) : t % a = 0 := by
  rcases ha with rfl | rfl | rfl | rfl <;> rcases hw with rfl | rfl | rfl | rfl <;> omega
/-! what is left of an order -/
def lst (o : Nat → Int) : Nat → Nat → List Nat
  | _, 0 => []
  | k, m + 1 => (o k).toNat :: lst o (k + 1) m
theorem lst_mem {o : Nat → Int} {x : Nat} : ∀ (m k : Nat), x ∈ lst o k m ↔ ∃ i, k ≤ i ∧ i < k + m ∧ (o i).toNat = x := by
  intro m
  induction m with
  | zero => intro k; exact ⟨fun h => (List.not_mem_nil h).elim, fun ⟨i, i1, i2, _⟩ => by omega⟩
  | succ m ihm =>
    intro k
    show x ∈ (o k).toNat :: lst o (k + 1) m ↔ _
    rw [List.mem_cons, ihm (k + 1)]
    constructor
    · intro h
      rcases h with h | ⟨i, i1, i2, i3⟩
      · exact ⟨k, Nat.le_refl _, by omega, h.symm⟩
      · exact ⟨i, by omega, by omega, i3⟩
    · intro ⟨i, i1, i2, i3⟩
      by_cases hi : i = k
      · subst hi; exact .inl i3.symm
      · exact .inr ⟨i, by omega, by omega, i3⟩
theorem lst_nd {n : Nat} {o : Nat → Int} (ho : isPm n o) : ∀ (m k : Nat), k + m ≤ n → (lst o k m).Nodup := by
  intro m
  induction m with
  | zero => intro k _; exact List.nodup_nil
  | succ m ihm =>
    intro k hk
    refine List.nodup_cons.mpr ⟨fun hm => ?_, ihm (k + 1) (by omega)⟩
    obtain ⟨i, i1, i2, i3⟩ := (lst_mem m (k + 1)).mp hm
    have h1 := ho.1 i (by omega)
    have h2 := ho.1 k (by omega)
    have := ho.2 i k (by omega) (by omega) (by omega)
    omega
theorem lst_R {n : Nat} {o : Nat → Int} (ho : isPm n o) {k : Nat} (hk : k ≤ n) : isR n o k (lst o k (n - k)) := by
  refine ⟨lst_nd ho (n - k) k (by omega), fun f => ?_⟩
  rw [lst_mem]
  constructor
  · intro ⟨i, i1, i2, i3⟩
    have h1 := ho.1 i (by omega)
    refine ⟨by omega, fun j hj hc => ?_⟩
    have := ho.2 j i (by omega) (by omega) (by omega)
    omega
  · intro ⟨h1, h2⟩
    obtain ⟨i, i1, i2⟩ := pm_surj ho h1
    refine ⟨i, ?_, by omega, by omega⟩
    refine Classical.byContradiction fun hc => h2 i (by omega) i2
theorem lst_eQ {P : Nat → Int × Int × Int} {o : Nat → Int} : ∀ (m k : Nat), eQ P (lst o k m) (stP P o k).1 (stP P o k).2 = (stP P o (k + m)).1 := by
  intro m
  induction m with
  | zero => intro k; rfl
  | succ m ihm =>
    intro k
    have h := ihm (k + 1)
    rw [show k + 1 + m = k + (m + 1) by omega] at h
    rw [← h]
    rfl
theorem best_of {D : Int → Int} {r t v : Int} {o : Nat → Int} (hF : okFs D r) (hW : zp8 (gW (shp D r))) (hv : isNd (dN D r).toNat (bP D r) 0 0 v) (ht : t = zup v (gW (shp D r))) (hI : chI (dN D r).toNat (bP D r) t o (dN D r).toNat) : isBest D r t o := by
  have hP := bP_ok hF
  have htW : t % gW (shp D r) = 0 := by rw [ht]; exact zup_dv hW
  have htA : ∀ x, x % gW (shp D r) = 0 → ∀ f, f < (dN D r).toNat → x % pA (bP D r) f = 0 := fun x hx f hf => dvd_W (hP.2 f hf).1 hW (W_ge hF hf) hx
  have hpm : isPm (dN D r).toNat o := ⟨hI.1, hI.2.1⟩
  have hlow : ∀ p, isPm (dN D r).toNat p → t ≤ finO D r p := by
    intro p hp
    have hE := lst_eQ (P := bP D r) (o := p) (dN D r).toNat 0
    rw [Nat.zero_add] at hE
    have hR := lst_R hp (Nat.zero_le _)
    have hC : isC (dN D r).toNat 0 (lst p 0 ((dN D r).toNat - 0)) := (isR_C (Z := 0) fun f _ => ⟨fun h => (by rw [Nat.zero_testBit] at h; cases h), fun ⟨j, j1, _⟩ => absurd j1 (Nat.not_lt_zero j)⟩).mp hR
    rw [Nat.sub_zero] at hC
    rw [finO_st hF hp, ht]
    have hfd := zup_dv (e := (stP (bP D r) p (dN D r).toNat).1) hW
    have hle := (zup_b (e := (stP (bP D r) p (dN D r).toNat).1) hW).1
    refine zup_least hW hfd ?_
    have hd := (q_dual hP (htA _ hfd) (lst p 0 (dN D r).toNat) 0 0 (isC_lt hC)).mp (by
      show eQ (bP D r) (lst p 0 (dN D r).toNat) (stP (bP D r) p 0).1 (stP (bP D r) p 0).2 ≤ _
      rw [hE]; exact hle)
    have := hv.2 _ hC
    omega
  have hfin : ∀ p, isPm (dN D r).toNat p → (finO D r p = t → (stP (bP D r) p (dN D r).toNat).1 ≤ t) := by
    intro p hp h
    rw [finO_st hF hp] at h
    have := (zup_b (e := (stP (bP D r) p (dN D r).toNat).1) hW).1
    omega
  refine ⟨hpm, ?_, fun p hp => ⟨hlow p hp, fun hpt => ?_⟩⟩
  · obtain ⟨q, q1, q2⟩ := hI.2.2.2
    have hqn : q = [] := by
      cases q with
      | nil => rfl
      | cons f q =>
        have h1 := (q1.2 f).mp List.mem_cons_self
        obtain ⟨j, j1, j2⟩ := pm_surj hpm h1.1
        exact absurd j2 (h1.2 j j1)
    rw [hqn] at q2
    have h1 := hlow o hpm
    have h2 : finO D r o ≤ t := by
      rw [finO_st hF hpm]
      exact zup_least hW htW q2
    omega
  · intro ⟨k, k1, k2, k3⟩
    have hE := lst_eQ (P := bP D r) (o := p) ((dN D r).toNat - k) k
    rw [show k + ((dN D r).toNat - k) = (dN D r).toNat by omega] at hE
    have hR : isR (dN D r).toNat o k (lst p k ((dN D r).toNat - k)) := (isR_congr k2).mp (lst_R hp (by omega))
    obtain ⟨m, hm⟩ : ∃ m, (dN D r).toNat - k = m + 1 := ⟨(dN D r).toNat - k - 1, by omega⟩
    rw [hm] at hR hE
    have h1 := hI.2.2.1 k k1 (p k).toNat (lst p (k + 1) m) hR (by
      rw [← stP_congr k k2]
      show eQ (bP D r) (lst p k (m + 1)) (stP (bP D r) p k).1 (stP (bP D r) p k).2 ≤ t
      rw [hE]
      exact hfin p hp hpt)
    have h2 := hp.1 k k1
    omega
/-! only one is the best -/
theorem ltx_tri {n : Nat} (o p : Nat → Int) : ltx n o p ∨ (∀ j, j < n → o j = p j) ∨ ltx n p o := by
  induction n with
  | zero => exact .inr (.inl fun j hj => absurd hj (Nat.not_lt_zero j))
  | succ n ihn =>
    rcases ihn with ⟨k, k1, k2, k3⟩ | h | ⟨k, k1, k2, k3⟩
    · exact .inl ⟨k, by omega, k2, k3⟩
    · rcases Int.lt_trichotomy (o n) (p n) with hc | hc | hc
      · exact .inl ⟨n, by omega, h, hc⟩
      · refine .inr (.inl fun j hj => ?_)
        by_cases hjn : j = n
        · subst hjn; exact hc
        · exact h j (by omega)
      · exact .inr (.inr ⟨n, by omega, fun j hj => (h j hj).symm, hc⟩)
    · exact .inr (.inr ⟨k, by omega, k2, k3⟩)
theorem best_one {D : Int → Int} {r a b : Int} {o p : Nat → Int} (ho : isBest D r a o) (hp : isBest D r b p) : a = b ∧ ∀ j, j < (dN D r).toNat → o j = p j := by
  obtain ⟨o1, o2, o3⟩ := ho
  obtain ⟨p1, p2, p3⟩ := hp
  have h1 := (o3 p p1).1
  have h2 := (p3 o o1).1
  have e : a = b := by omega
  refine ⟨e, ?_⟩
  rcases ltx_tri (n := (dN D r).toNat) o p with h | h | h
  · exact absurd h ((p3 o o1).2 (by omega))
  · exact h
  · exact absurd h ((o3 p p1).2 (by omega))
