/-! ===== paths: their codes and their letters ===== -/
def okP (L : List (Int × Int)) : Prop := ∀ p ∈ L, 97 ≤ p.1 ∧ p.1 ≤ 122 ∧ 0 ≤ p.2 ∧ p.2 ≤ 4
theorem pcode_s {p : Int × Int} {r : List (Int × Int)} (hp : 97 ≤ p.1 ∧ p.1 ≤ 122 ∧ 0 ≤ p.2 ∧ p.2 ≤ 4) (hr : 0 ≤ (pcode r).toInt ∧ (pcode r).toInt < 2 ^ 48) : (pcode (p :: r)).toInt = (pcode r).toInt * 256 + ((p.1 - 97 + 1) * 8 + p.2) := by
  show (zshlL (pcode r) 8 ||| zi2l ((p.1 - 97 + 1) * 8 + p.2)).toInt = _
  exact zshl8_or hr ⟨by omega, by omega⟩
theorem pcode_b : ∀ L : List (Int × Int), okP L → L.length ≤ 6 → 0 ≤ (pcode L).toInt ∧ (pcode L).toInt < 2 ^ (8 * L.length) := by
  intro L
  induction L with
  | nil => intro _ _; exact ⟨by decide, by decide⟩
  | cons p r ihr =>
    intro hp hl
    have hl2 : r.length ≤ 5 := by rw [List.length_cons] at hl; omega
    have hz := ihr (fun q hq => hp q (List.mem_cons_of_mem _ hq)) (by omega)
    have h0 := hp p (List.mem_cons_self ..)
    have hb : (2 : Int) ^ (8 * r.length) ≤ 2 ^ 40 := by
      have h1 : (2 : Nat) ^ (8 * r.length) ≤ 2 ^ 40 := Nat.pow_le_pow_right (by decide) (by omega)
      have h2 : ((2 ^ (8 * r.length) : Nat) : Int) ≤ ((2 ^ 40 : Nat) : Int) := by exact_mod_cast h1
      simpa using h2
    have h48 : (2 : Int) ^ 48 = 281474976710656 := by decide
    have h40 : (2 : Int) ^ 40 = 1099511627776 := by decide
    rw [pcode_s h0 ⟨hz.1, by omega⟩, List.length_cons, show 8 * (r.length + 1) = 8 * r.length + 8 by omega, Int.pow_add]
    have h8 : (2 : Int) ^ 8 = 256 := by decide
    rw [h8]
    omega
theorem pcode_b48 {L : List (Int × Int)} (h : okP L) (hl : L.length ≤ 6) : 0 ≤ (pcode L).toInt ∧ (pcode L).toInt < 2 ^ 48 := by
  have hz := pcode_b L h hl
  have hb : (2 : Int) ^ (8 * L.length) ≤ 2 ^ 48 := by
    have h1 : (2 : Nat) ^ (8 * L.length) ≤ 2 ^ 48 := Nat.pow_le_pow_right (by decide) (by omega)
    have h2 : ((2 ^ (8 * L.length) : Nat) : Int) ≤ ((2 ^ 48 : Nat) : Int) := by exact_mod_cast h1
    simpa using h2
  exact ⟨hz.1, by omega⟩
theorem pcode_inj : ∀ L L' : List (Int × Int), okP L → okP L' → L.length ≤ 6 → L'.length ≤ 6 → pcode L = pcode L' → L = L' := by
  intro L
  induction L with
  | nil =>
    intro L' _ h' _ hl' he
    cases L' with
    | nil => rfl
    | cons q r' =>
      have h0 := h' q (List.mem_cons_self ..)
      have hb := pcode_b48 (L := r') (fun x hx => h' x (List.mem_cons_of_mem _ hx)) (by rw [List.length_cons] at hl'; omega)
      have hz := congrArg Int64.toInt he
      rw [pcode_s h0 hb] at hz
      have h00 : (pcode []).toInt = 0 := by decide
      rw [h00] at hz
      omega
  | cons p r ihr =>
    intro L' h h' hl hl' he
    have h0 := h p (List.mem_cons_self ..)
    have hbr := pcode_b48 (L := r) (fun x hx => h x (List.mem_cons_of_mem _ hx)) (by rw [List.length_cons] at hl; omega)
    cases L' with
    | nil =>
      have hz := congrArg Int64.toInt he
      rw [pcode_s h0 hbr] at hz
      have h00 : (pcode []).toInt = 0 := by decide
      rw [h00] at hz
      omega
    | cons q r' =>
      have h1 := h' q (List.mem_cons_self ..)
      have hbr' := pcode_b48 (L := r') (fun x hx => h' x (List.mem_cons_of_mem _ hx)) (by rw [List.length_cons] at hl'; omega)
      have hz := congrArg Int64.toInt he
      rw [pcode_s h0 hbr, pcode_s h1 hbr'] at hz
      have e1 : p.1 = q.1 := by omega
      have e2 : p.2 = q.2 := by omega
      have e3 : pcode r = pcode r' := Int64.toInt_inj.mp (by omega)
      have hr := ihr r' (fun x hx => h x (List.mem_cons_of_mem _ hx)) (fun x hx => h' x (List.mem_cons_of_mem _ hx)) (by rw [List.length_cons] at hl; omega) (by rw [List.length_cons] at hl'; omega) e3
      rw [hr, Prod.ext e1 e2]
theorem pbs_inj : ∀ L L' : List (Int × Int), okP L → okP L' → L ≠ [] → L' ≠ [] → pbs L = pbs L' → L = L' := by
  intro L
  induction L with
  | nil => intro L' _ _ h _ _; exact absurd rfl h
  | cons p r ihr =>
    intro L' h h' _ hn he
    cases L' with
    | nil => exact absurd rfl hn
    | cons q r' =>
      have h0 := h p (List.mem_cons_self ..)
      have h1 := h' q (List.mem_cons_self ..)
      have hr : okP r := fun x hx => h x (List.mem_cons_of_mem _ hx)
      have hr' : okP r' := fun x hx => h' x (List.mem_cons_of_mem _ hx)
      have htail : ∀ A B : List Int, (if r = [] then ([] : List Int) else 46 :: pbs r) = (if r' = [] then ([] : List Int) else 46 :: pbs r') → r = r' := fun A B hq => by
        by_cases g : r = []
        · by_cases g' : r' = []
          · rw [g, g']
          · rw [if_pos g, if_neg g'] at hq; exact absurd hq (by simp)
        · by_cases g' : r' = []
          · rw [if_neg g, if_pos g'] at hq; exact absurd hq (by simp)
          · rw [if_neg g, if_neg g'] at hq
            exact ihr r' hr hr' g g' (List.cons.inj hq).2
      unfold pbs zlv at he
      by_cases c0 : p.2 = 0
      · by_cases c1 : q.2 = 0
        · rw [if_pos c0, if_pos c1] at he
          have hz := List.cons.inj he
          rw [htail [] [] hz.2, Prod.ext hz.1 (c0.trans c1.symm)]
        · rw [if_pos c0, if_neg c1] at he
          have hz := (List.cons.inj he).2
          by_cases g : r = []
          · rw [if_pos g] at hz; exact absurd hz (by simp)
          · rw [if_neg g] at hz
            have := (List.cons.inj hz).1
            exact absurd this (by decide)
      · by_cases c1 : q.2 = 0
        · rw [if_neg c0, if_pos c1] at he
          have hz := (List.cons.inj he).2
          by_cases g : r' = []
          · rw [if_pos g] at hz; exact absurd hz (by simp)
          · rw [if_neg g] at hz
            have := (List.cons.inj hz).1
            exact absurd this (by decide)
        · rw [if_neg c0, if_neg c1] at he
          have hz := List.cons.inj he
          have hy := (List.cons.inj (List.cons.inj hz.2).2)
          have hx := (List.cons.inj hy.2).2
          rw [htail [] [] hx, Prod.ext hz.1 (by have := hy.1; omega)]
/-- the first leaf with a path, from one on -/
def fstP (V : List yLf) (p : List (Int × Int)) : Nat → Nat → Int
  | 0, _ => -1
  | n + 1, i => if lP (V.getD i dl) = p then i else fstP V p n (i + 1)
theorem fstP_b {V : List yLf} {p : List (Int × Int)} : ∀ n i : Nat, fstP V p n i = -1 ∨ ∃ j : Nat, i ≤ j ∧ j < i + n ∧ fstP V p n i = j ∧ lP (V.getD j dl) = p := by
  intro n
  induction n with
  | zero => intro i; exact .inl rfl
  | succ n ihn =>
    intro i
    by_cases h : lP (V.getD i dl) = p
    · right
      refine ⟨i, Nat.le_refl _, by omega, if_pos h, h⟩
    · rcases ihn (i + 1) with hq | ⟨j, j1, j2, j3, j4⟩
      · left; exact (if_neg h).trans hq
      · right; exact ⟨j, by omega, by omega, (if_neg h).trans j3, j4⟩
theorem fstP_at {V : List yLf} {p : List (Int × Int)} {k : Nat} (hk : lP (V.getD k dl) = p) : ∀ n i : Nat, i ≤ k → k < i + n → (∀ j, j < k → lP (V.getD j dl) ≠ p) → fstP V p n i = k := by
  intro n
  induction n with
  | zero => intro i h1 h2; omega
  | succ n ihn =>
    intro i h1 h2 h3
    by_cases h : i = k
    · subst h; exact if_pos hk
    · exact (if_neg (h3 i (by omega))).trans (ihn (i + 1) (by omega) (by omega) h3)
/-! names that differ give paths that differ -/
def okNm (D : Int → Int) : Prop := ∀ r, 0 ≤ r → r < D 0 → ∀ f g : Int, 0 ≤ f → f < g → g < dN D r → dNm D r f ≠ dNm D r g
def difP (a b : yLf) : Prop := lP a ≠ lP b
def headP (nm : Int) (l : yLf) : Prop := ∃ ix r, lP l = (nm, ix) :: r
theorem lvOf_head {N : Int → ySh} {nm t c f off bit : Int} {el : Nat} : ∀ l ∈ lvOf N nm t c f off bit el, ∃ r, lP l = (nm, zix c el) :: r := by
  intro l hl
  unfold lvOf at hl
  by_cases h100 : t < 100
  · rw [if_pos h100] at hl
    have hle := List.mem_singleton.mp hl
    subst hle
    exact ⟨[], rfl⟩
  · rw [if_neg h100] at hl
    obtain ⟨l0, hl0, hle⟩ := List.mem_map.mp hl
    subst hle
    exact ⟨lP l0, rfl⟩
theorem lvOf_dif {N : Int → ySh} {nm t c f off bit : Int} {el : Nat} (hN : 100 ≤ t → (gV (N (t - 100))).Pairwise difP) : (lvOf N nm t c f off bit el).Pairwise difP := by
  unfold lvOf
  by_cases h100 : t < 100
  · rw [if_pos h100]; exact List.pairwise_singleton _ _
  · rw [if_neg h100, List.pairwise_map]
    refine (hN (by omega)).imp fun {a b} hab he => hab ?_
    exact (List.cons.inj he).2
theorem lvsOf_dif {N : Int → ySh} {nm t c f off bit : Int} (hN : 100 ≤ t → (gV (N (t - 100))).Pairwise difP) : ∀ n : Nat, (n : Int) ≤ c → (lvsOf N nm t c f off bit n).Pairwise difP ∧ ∀ l ∈ lvsOf N nm t c f off bit n, ∃ el r, el < n ∧ lP l = (nm, zix c el) :: r := by
  intro n
  induction n with
  | zero => intro _; exact ⟨List.Pairwise.nil, fun l hl => by cases hl⟩
  | succ n ihn =>
    intro hn
    have hz := ihn (by omega)
    rw [lvsOf_succ]
    refine ⟨List.pairwise_append.mpr ⟨hz.1, lvOf_dif hN, fun a ha b hb he => ?_⟩, fun l hl => ?_⟩
    · obtain ⟨el, r, e1, e2⟩ := hz.2 a ha
      obtain ⟨r', e3⟩ := lvOf_head b hb
      rw [e2, e3] at he
      have h1 : zix c el = zix c n := congrArg Prod.snd (List.cons.inj he).1
      unfold zix at h1
      rw [if_pos (by omega), if_pos (by omega)] at h1
      omega
    · rcases List.mem_append.mp hl with hl | hl
      · obtain ⟨el, r, e1, e2⟩ := hz.2 l hl
        exact ⟨el, r, by omega, e2⟩
      · obtain ⟨r, e⟩ := lvOf_head l hl
        exact ⟨n, r, by omega, e⟩
theorem gN_dif {N : Int → ySh} {pack : Int} {F : Nat → Int × Int × Int} : ∀ n : Nat, (∀ k, k < n → (100 ≤ (F k).2.1 → (gV (N ((F k).2.1 - 100))).Pairwise difP) ∧ 1 ≤ (F k).2.2) → (∀ j k, j < k → k < n → (F j).1 ≠ (F k).1) → (gV (gN N pack F n)).Pairwise difP ∧ ∀ l ∈ gV (gN N pack F n), ∃ k ix r, k < n ∧ lP l = ((F k).1, ix) :: r := by
  intro n
  induction n with
  | zero => intro _ _; exact ⟨List.Pairwise.nil, fun l hl => by cases hl⟩
  | succ n ihn =>
    intro hk hd
    have hz := ihn (fun k h => hk k (by omega)) fun j k h1 h2 => hd j k h1 (by omega)
    obtain ⟨k1, k2⟩ := hk n (by omega)
    have hall := lvsOf_dif (N := N) (nm := (F n).1) (t := (F n).2.1) (c := (F n).2.2) (f := ((gQ (gN N pack F n)).length : Int)) (off := (gst (min (tyA N (F n).2.1) pack) (zwd (F n).2.1) ((F n).2.2 * tyB N (F n).2.1) (gE (gN N pack F n)) (gL (gN N pack F n))).1) (bit := (gst (min (tyA N (F n).2.1) pack) (zwd (F n).2.1) ((F n).2.2 * tyB N (F n).2.1) (gE (gN N pack F n)) (gL (gN N pack F n))).2.1) k1 (F n).2.2.toNat (by omega)
    have hVe : gV (gN N pack F (n + 1)) = gV (gN N pack F n) ++ lvsOf N (F n).1 (F n).2.1 (F n).2.2 (gQ (gN N pack F n)).length (gst (min (tyA N (F n).2.1) pack) (zwd (F n).2.1) ((F n).2.2 * tyB N (F n).2.1) (gE (gN N pack F n)) (gL (gN N pack F n))).1 (gst (min (tyA N (F n).2.1) pack) (zwd (F n).2.1) ((F n).2.2 * tyB N (F n).2.1) (gE (gN N pack F n)) (gL (gN N pack F n))).2.1 (F n).2.2.toNat := rfl
    rw [hVe]
    refine ⟨List.pairwise_append.mpr ⟨hz.1, hall.1, fun a ha b hb he => ?_⟩, fun l hl => ?_⟩
    · obtain ⟨k, ix, r, e1, e2⟩ := hz.2 a ha
      obtain ⟨el, r', e3, e4⟩ := hall.2 b hb
      rw [e2, e4] at he
      exact hd k n e1 (by omega) (Prod.mk.inj (List.cons.inj he).1).1
    · rcases List.mem_append.mp hl with hl | hl
      · obtain ⟨k, ix, r, e1, e2⟩ := hz.2 l hl
        exact ⟨k, ix, r, by omega, e2⟩
      · obtain ⟨el, r', e3, e4⟩ := hall.2 l hl
        exact ⟨n, zix (F n).2.2 el, r', by omega, e4⟩
theorem shp_dif {D : Int → Int} (hD : okD D) (hN : okNm D) : ∀ n : Nat, ∀ r : Int, r = n → r < D 0 → (gV (shp D r)).Pairwise difP := by
  intro n
  induction n using Nat.strongRecOn with
  | ind n ihn =>
    intro r hr h1
    obtain ⟨o1, o2, o3, -⟩ := hD.2 r (by omega) h1
    rw [shp_eq (by omega) fun f q0 q1 => (o3 f q0 q1).2.1]
    refine (gN_dif _ (fun k hk => ?_) fun j k hjk hk => ?_).1
    · obtain ⟨f1, f2, f3, f4⟩ := o3 k (by omega) (by omega)
      refine ⟨fun ht => ?_, f3.1⟩
      have hz := okT_in f2 ht
      have ht2 : 100 ≤ dTy D r k := ht
      exact ihn (dTy D r k - 100).toNat (by omega) (dTy D r k - 100) (by omega) (by omega)
    · exact hN r (by omega) h1 j k (by omega) (by omega) (by omega)
theorem fstP_self {D : Int → Int} (hD : okD D) (hN : okNm D) {r : Int} (h0 : 0 ≤ r) (h1 : r < D 0) {k : Nat} (hk : k < (gV (shp D r)).length) : fstP (gV (shp D r)) (lP ((gV (shp D r)).getD k dl)) (gV (shp D r)).length 0 = k := by
  have hp := List.pairwise_iff_getElem.mp (shp_dif hD hN r.toNat r (by omega) h1)
  have e : ∀ i (hi : i < (gV (shp D r)).length), (gV (shp D r)).getD i dl = (gV (shp D r))[i] := fun i hi => by
    rw [List.getD_eq_getElem?_getD, List.getElem?_eq_getElem hi]; rfl
  refine fstP_at rfl _ _ (Nat.zero_le _) (by omega) fun j hj => ?_
  rw [e j (by omega), e k hk]
  exact hp j k (by omega) hk hj
