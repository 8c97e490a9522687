/-! ===== what is asked about records ===== -/
def lfl (l : yLf) : Int := if (21 ≤ lT l ∧ lT l ≤ 36) ∧ 0 < lB l then 0 else zby (lT l)
def filL : List yLf → Int
  | [] => 0
  | l :: V => lfl l + filL V
theorem filL_app (V W : List yLf) : filL (V ++ W) = filL V + filL W := by
  induction V with
  | nil => show filL W = 0 + filL W; omega
  | cons l V ihV => show lfl l + filL (V ++ W) = lfl l + filL V + filL W; rw [ihV]; omega
theorem filL_map {V : List yLf} {F : yLf → yLf} (h : ∀ l, lfl (F l) = lfl l) : filL (V.map F) = filL V := by
  induction V with
  | nil => rfl
  | cons l V ihV => show lfl (F l) + filL (V.map F) = lfl l + filL V; rw [ihV, h]
theorem filL_lvs {N : Int → ySh} {nm t c f off bit x : Int} (h : ∀ el : Nat, filL (lvOf N nm t c f off bit el) = x) : ∀ n : Nat, filL (lvsOf N nm t c f off bit n) = n * x := by
  intro n
  induction n with
  | zero => show (0 : Int) = 0 * x; omega
  | succ n ihn =>
    rw [lvsOf_succ, filL_app, ihn, h]
    have e : ((n + 1 : Nat) : Int) = (n : Int) + 1 := rfl
    rw [e, Int.add_mul]
    omega
theorem gst_l {own w len e l : Int} (h : 0 ≤ l ∧ l ≤ 15) (hw : 0 ≤ w) : (gst own w len e l).2.2.2 ≤ 15 := by
  unfold gst
  split
  · split <;> dsimp only <;> omega
  · dsimp only; omega
theorem gN_fil {N : Int → ySh} {pack : Int} {F : Nat → Int × Int × Int} (hp : zp8 pack) : ∀ n : Nat, (∀ k, k < n → (100 ≤ (F k).2.1 → (gOK (N ((F k).2.1 - 100)) ∧ 1 ≤ (gV (N ((F k).2.1 - 100))).length) ∧ gC (N ((F k).2.1 - 100)) = filL (gV (N ((F k).2.1 - 100)))) ∧ (1 ≤ (F k).2.2 ∧ (F k).2.2 ≤ 4) ∧ (21 ≤ (F k).2.1 → (F k).2.1 ≤ 36 → (F k).2.2 = 1)) → gL (gN N pack F n) ≤ 15 ∧ gC (gN N pack F n) = filL (gV (gN N pack F n)) := by
  intro n
  induction n with
  | zero => intro _; exact ⟨by show (0 : Int) ≤ 15; omega, rfl⟩
  | succ n ihn =>
    intro hk
    obtain ⟨i1, i2⟩ := ihn fun k h => hk k (by omega)
    obtain ⟨k1, k2, k3⟩ := hk n (by omega)
    have hok := (gN_ok (N := N) (F := F) hp n fun k h => ⟨fun h' => ((hk k (by omega)).1 h').1, (hk k (by omega)).2⟩).1
    have hwb := zwd_b (F n).2.1
    refine ⟨gst_l ⟨hok.2.2.1.1, i1⟩ hwb.1, ?_⟩
    show gC (gN N pack F n) + _ = filL (gV (gN N pack F n) ++ lvsOf _ _ _ _ _ _ _ _)
    rw [filL_app, i2]
    congr 1
    by_cases hb : 21 ≤ (F n).2.1 ∧ (F n).2.1 ≤ 36
    · have hc1 := k3 hb.1 hb.2
      have hw := zwd_pos hb
      rw [if_pos (by omega), hc1]
      have h2 := zby_le hb
      show _ = filL ((lvOf N (F n).1 (F n).2.1 1 _ _ _ 0) ++ [])
      rw [List.append_nil]
      unfold lvOf
      rw [if_pos (show (F n).2.1 < 100 by omega)]
      show _ = lfl _ + 0
      unfold lfl
      show _ = (if (21 ≤ (F n).2.1 ∧ (F n).2.1 ≤ 36) ∧ 0 < (gst _ _ _ _ _).2.1 then 0 else zby (F n).2.1) + 0
      rw [h2]
      unfold gst
      rw [if_pos (by omega : 0 < zwd (F n).2.1)]
      by_cases hl : zwd (F n).2.1 ≤ gL (gN N pack F n)
      · rw [if_pos hl, if_pos hl]
        dsimp only
        rw [if_pos ⟨hb, by omega⟩]
        omega
      · rw [if_neg hl, if_neg hl]
        dsimp only
        rw [if_neg (fun hq => by have := hq.2; omega)]
        omega
    · have hw := zwd_0 hb
      rw [if_neg (by omega)]
      have hg : (gst (min (tyA N (F n).2.1) pack) (zwd (F n).2.1) ((F n).2.2 * tyB N (F n).2.1) (gE (gN N pack F n)) (gL (gN N pack F n))).2.1 = 0 := by unfold gst; rw [if_neg (by omega)]
      rw [hg]
      rw [filL_lvs (x := tyC N (F n).2.1) fun el => ?_, Int.toNat_of_nonneg (by omega)]
      by_cases h100 : (F n).2.1 < 100
      · unfold lvOf tyC zel
        rw [if_pos h100, if_pos h100]
        show lfl _ + 0 = _
        rw [Int.add_zero]
        unfold lfl
        exact if_neg (fun hq => hb hq.1)
      · unfold lvOf tyC zel
        rw [if_neg h100, if_neg h100, (k1 (by omega)).2]
        exact filL_map fun l => rfl
theorem shp_fil {D : Int → Int} (hD : okD D) : ∀ n : Nat, ∀ r : Int, r = n → r < D 0 → gC (shp D r) = filL (gV (shp D r)) := by
  intro n
  induction n using Nat.strongRecOn with
  | ind n ihn =>
    intro r hr h1
    obtain ⟨o1, o2, o3, -⟩ := hD.2 r (by omega) h1
    rw [shp_eq (by omega) fun f q0 q1 => (o3 f q0 q1).2.1]
    refine (gN_fil o1 _ fun k hk => ?_).2
    obtain ⟨f1, f2, f3, f4⟩ := o3 k (by omega) (by omega)
    refine ⟨fun ht => ?_, f3, f4⟩
    have hz := okT_in f2 ht
    have ht2 : 100 ≤ dTy D r k := ht
    have ho := shp_OK hD (r := dTy D r k - 100) (by omega) (by omega)
    exact ⟨⟨ho.1, ho.2.1 hz.2.2⟩, ihn (dTy D r k - 100).toNat (by omega) (dTy D r k - 100) (by omega) (by omega)⟩
theorem filL_b (V : List yLf) : 0 ≤ filL V ∧ filL V ≤ 8 * (V.length : Int) := by
  induction V with
  | nil => exact ⟨by show (0 : Int) ≤ 0; omega, by show (0 : Int) ≤ 8 * 0; omega⟩
  | cons l V ihV =>
    have hz := zp8_b (zby_8 (lT l))
    have hl : 0 ≤ lfl l ∧ lfl l ≤ 8 := by unfold lfl; split <;> omega
    have e1 : filL (l :: V) = lfl l + filL V := rfl
    have e2 : ((l :: V).length : Int) = (V.length : Int) + 1 := rfl
    omega
/-- a field of a shape -/
theorem gQ_at {N : Int → ySh} {pack : Int} {F : Nat → Int × Int × Int} : ∀ n k : Nat, k < n → (gQ (gN N pack F n)).getD k dq = ((gst (min (tyA N (F k).2.1) pack) (zwd (F k).2.1) ((F k).2.2 * tyB N (F k).2.1) (gE (gN N pack F k)) (gL (gN N pack F k))).1, (gst (min (tyA N (F k).2.1) pack) (zwd (F k).2.1) ((F k).2.2 * tyB N (F k).2.1) (gE (gN N pack F k)) (gL (gN N pack F k))).2.1, tyB N (F k).2.1, min (tyA N (F k).2.1) pack) := by
  intro n
  induction n with
  | zero => intro k hk; omega
  | succ n ihn =>
    intro k hk
    have hq := gQ_len N pack F n
    show (gQ (gN N pack F n) ++ [_]).getD k dq = _
    by_cases hc : k < n
    · rw [getD_app1 (by omega)]; exact ihn k hc
    · have hkn : k = n := by omega
      subst hkn
      rw [getD_app2 (by omega), hq, Nat.sub_self]
      rfl
def usedR (D : Int → Int) (r : Int) : Prop := (∃ i : Int, 0 ≤ i ∧ i < D 0 ∧ ∃ f : Int, 0 ≤ f ∧ f < dN D i ∧ dTy D i f = 100 + r) ∨ ∃ t, 0 ≤ t ∧ t < 3 ∧ tRc D t = r
section OPS7
variable {S : Option (Nat × (Nat → Int32))} {Q : Option Value ⊕ Nat → zSt → Prop} {s : zSt} {D : Int → Int} {H : List (Int → Int)} {T : List Int}
theorem C_hasType_2 {b pack nn x : Int} {F : Nat → Int × Int × Int} (hb : isO b 1) (hx : rng x) (hn : 0 ≤ nn ∧ nn ≤ 8) (hf : cFld s b pack nn F) (n : Nat) : ∀ i : Nat, (i : Int) + n = nn → (∀ j : Nat, j < i → (F j).2.1 ≠ x) → Q (rI (bi (∃ j : Nat, (j : Int) < nn ∧ (F j).2.1 = x))) s → wp S 31 2 [(0, rf b), (1, iv x), (2, iv i)] [] s Q := by
  have h1 := hf.2.1
  induction n with
  | zero =>
    intro i hi hj k1
    refine v_Fields_hasType_2 hb ⟨⟨by omega, by omega⟩, fun _ => ?_, fun hc => by omega⟩
    rw [bi_F (fun hq => by obtain ⟨j, j1, j2⟩ := hq; exact hj j (by omega) j2)] at k1
    exact k1
  | succ n ihn =>
    intro i hi hj k1
    have hty := (hf.2.2 i (by omega)).2.1
    refine v_Fields_hasType_2 hb ⟨⟨by omega, by omega⟩, fun hc => by omega, fun _ => ⟨⟨by omega, by omega⟩, hx, ?_⟩⟩
    rw [hty]
    refine ⟨fun hne => ihn (i + 1) (by omega) (fun j hjl => ?_) k1, fun he => ?_⟩
    · by_cases hji : j = i
      · subst hji; exact hne
      · exact hj j (by omega)
    · rw [bi_T ⟨i, by omega, he⟩] at k1
      exact k1
theorem C_hasName_2 {b pack nn x : Int} {F : Nat → Int × Int × Int} (hb : isO b 1) (hx : rng x) (hn : 0 ≤ nn ∧ nn ≤ 8) (hf : cFld s b pack nn F) (n : Nat) : ∀ i : Nat, (i : Int) + n = nn → (∀ j : Nat, j < i → (F j).1 ≠ x) → Q (rI (bi (∃ j : Nat, (j : Int) < nn ∧ (F j).1 = x))) s → wp S 55 2 [(0, rf b), (1, iv x), (2, iv i)] [] s Q := by
  have h1 := hf.2.1
  induction n with
  | zero =>
    intro i hi hj k1
    refine v_Fields_hasName_2 hb ⟨⟨by omega, by omega⟩, fun _ => ?_, fun hc => by omega⟩
    rw [bi_F (fun hq => by obtain ⟨j, j1, j2⟩ := hq; exact hj j (by omega) j2)] at k1
    exact k1
  | succ n ihn =>
    intro i hi hj k1
    have hty := (hf.2.2 i (by omega)).1
    refine v_Fields_hasName_2 hb ⟨⟨by omega, by omega⟩, fun hc => by omega, fun _ => ⟨⟨by omega, by omega⟩, hx, ?_⟩⟩
    rw [hty]
    refine ⟨fun hne => ihn (i + 1) (by omega) (fun j hjl => ?_) k1, fun he => ?_⟩
    · by_cases hji : j = i
      · subst hji; exact hne
      · exact hj j (by omega)
    · rw [bi_T ⟨i, by omega, he⟩] at k1
      exact k1
theorem C_inUse_42 {r : Int} (hs : cSt s 3 D) (hr : 0 ≤ r ∧ r < 6) (hno : ¬ ∃ i : Int, 0 ≤ i ∧ i < D 0 ∧ ∃ f : Int, 0 ≤ f ∧ f < dN D i ∧ dTy D i f = 100 + r) (n : Nat) : ∀ t : Nat, t + n = 3 → (∀ u : Int, 0 ≤ u → u < t → tRc D u ≠ r) → Q (rI (bi (usedR D r))) s → wp S 30 42 [(0, rf 2), (1, iv r), (2, iv t)] [] s Q := by
  induction n with
  | zero =>
    intro t ht hj k1
    refine v_RL_isInUse_42 ⟨⟨by omega, by omega⟩, fun _ => ?_, fun hc => by omega⟩
    rw [bi_F (fun hq => by
      rcases hq with hq | ⟨u, u0, u1, u2⟩
      · exact hno hq
      · exact hj u u0 (by omega) u2)] at k1
    exact k1
  | succ n ihn =>
    intro t ht hj k1
    have hl := cTb_live hs (t := t) (by omega) (by omega)
    have hnext : tRc D t ≠ r → wp S 30 42 [(0, rf 2), (1, iv r), (2, iv ((t : Int) + 1))] [] s Q := fun hne => ihn (t + 1) (by omega) (fun u u0 u1 => by
      by_cases hut : u = t
      · subst hut; exact hne
      · exact hj u u0 (by omega)) k1
    refine v_RL_isInUse_42 ⟨⟨by omega, by omega⟩, fun hc => by omega, fun _ => ⟨⟨by omega, by omega⟩, fun h0 => hnext fun hq => ?_, fun h0 => ⟨⟨by omega, by omega⟩, ?_⟩⟩⟩
    · exact hl.1.mpr (by rw [hq]; omega) h0
    · have hv := hl.1.mp h0
      have e1 := hl.2 hv 0 (by omega) (by omega)
      have e2 : zI s (31 + (t : Int)) 1 = tRc D t := by rw [Int.add_zero] at e1; exact e1
      rw [e2]
      refine ⟨fun hne => hnext hne, fun he => ?_⟩
      rw [bi_T (.inr ⟨t, by omega, by omega, he⟩)] at k1
      exact k1
theorem C_inUse {r : Int} (hA : okA D) (hs : cSt s 3 D) (hr : 0 ≤ r ∧ r < 6) (k1 : Q (rI (bi (usedR D r))) s) : wp S 30 0 [(0, rf 2), (1, iv r)] [] s Q := by
  have hD0 := hA.1.1
  have hn0 := hs.1
  have hloop : ∀ (n i : Nat), (i : Int) + n = D 0 → (∀ i' : Int, 0 ≤ i' → i' < i → ¬ ∃ f : Int, 0 ≤ f ∧ f < dN D i' ∧ dTy D i' f = 100 + r) → wp S 30 2 [(0, rf 2), (1, iv r), (2, iv i)] [] s Q := by
    intro n
    induction n with
    | zero =>
      intro i hi hj
      refine v_RL_isInUse_2 ⟨⟨by omega, by omega⟩, fun _ => C_inUse_42 hs hr (fun hq => ?_) 3 0 (by omega) (fun u u0 u1 => by omega) k1, fun hc => by omega⟩
      obtain ⟨i', i0, i1, hf⟩ := hq
      exact hj i' i0 (by omega) hf
    | succ n ihn =>
      intro i hi hj
      have hfl := hs.2.1 i (by omega) (by omega)
      rw [show (3 : Int) + 4 + 4 * (i : Int) = 7 + 4 * i by omega] at hfl
      have hn8 := (hA.1.2 i (by omega) (by omega)).2.1
      refine v_RL_isInUse_2 ⟨⟨by omega, by omega⟩, fun hc => by omega, fun _ => ⟨⟨by omega, by omega⟩, v_Fields_hasType_0 (isO_fields ⟨by omega, by omega⟩) ?_⟩⟩
      refine C_hasType_2 (isO_fields ⟨by omega, by omega⟩) ⟨by omega, by omega⟩ hn8 hfl (dN D i).toNat 0 (by omega) (fun j hjl => absurd hjl (Nat.not_lt_zero j)) (zkI_I (bi_rng _) ⟨fun h0 => ?_, fun h0 => ?_⟩)
      · have hno := bi_0.mp h0
        refine ihn (i + 1) (by omega) fun i' i0 i1 hq => ?_
        by_cases hii : i' = i
        · subst hii
          obtain ⟨f, f0, f1, f2⟩ := hq
          exact hno ⟨f.toNat, by omega, by show dTy D i ((f.toNat : Nat) : Int) = 100 + r; rw [Int.toNat_of_nonneg f0]; exact f2⟩
        · exact hj i' i0 (by omega) hq
      · have hyes := Classical.byContradiction fun hn => h0 (bi_0.mpr hn)
        obtain ⟨j, j1, j2⟩ := hyes
        have hk := k1
        rw [bi_T (.inl ⟨i, by omega, by omega, j, by omega, j1, j2⟩)] at hk
        exact hk
  exact v_RL_isInUse_0 (hloop (D 0).toNat 0 (by omega) fun i' i0 i1 => by omega)
theorem M_isUsed {r : Int} (hA : okA D) (hm : mD s D) (hr : 0 ≤ r ∧ r < 6) (k1 : Q (rI (bi (usedR D r))) s) : wp S 202 0 [(0, rf 252), (1, iv r)] [] s Q := by
  have hD0 := hA.1.1
  have hn0 : zI s 253 0 = D 0 := hm 0 (by omega) (by omega)
  have h71 : ∀ (n t : Nat) (P : Prop), t + n = 3 → (usedR D r ↔ P ∨ ∃ u : Int, (t : Int) ≤ u ∧ u < 3 ∧ tRc D u = r) → wp S 202 71 [(0, rf 252), (1, iv r), (2, iv (bi P)), (3, iv t)] [] s Q := by
    intro n
    induction n with
    | zero =>
      intro t P ht hP
      refine v_Model_isUsed_71 ⟨⟨by omega, by omega⟩, fun _ => ⟨bi_01 P, ?_⟩, fun hc => by omega⟩
      rw [bi_iff (hP.trans ⟨fun hq => by
        rcases hq with hq | ⟨u, u0, u1, -⟩
        · exact hq
        · omega, .inl⟩)] at k1
      exact k1
    | succ n ihn =>
      intro t P ht hP
      have he : zI s 253 (157 + 6 * (t : Int)) = tRc D t := hm _ (by omega) (by omega)
      have hstep : ∀ (b : Int) (P' : Prop), b = bi P' → (P' ↔ P ∨ tRc D t = r) → wp S 202 71 [(0, rf 252), (1, iv r), (2, iv b), (3, iv ((t : Int) + 1))] [] s Q := fun b P' hb hP' => by
        subst hb
        refine ihn (t + 1) P' (by omega) (hP.trans ⟨fun hq => ?_, fun hq => ?_⟩)
        · rcases hq with hq | ⟨u, u0, u1, u2⟩
          · exact .inl (hP'.mpr (.inl hq))
          · by_cases hut : u = t
            · exact .inl (hP'.mpr (.inr (by rw [← hut]; exact u2)))
            · exact .inr ⟨u, by omega, u1, u2⟩
        · rcases hq with hq | ⟨u, u0, u1, u2⟩
          · rcases hP'.mp hq with hq | hq
            · exact .inl hq
            · exact .inr ⟨t, by omega, by omega, hq⟩
          · exact .inr ⟨u, by omega, u1, u2⟩
      refine v_Model_isUsed_71 ⟨⟨by omega, by omega⟩, fun hc => by omega, fun _ => ⟨bi_rng _, fun h0 => ?_, fun h0 => ⟨⟨by omega, by omega⟩, ⟨by omega, by omega⟩, ?_⟩⟩⟩
      · have hPt : P := Classical.byContradiction fun hn => h0 (bi_0.mpr hn)
        exact hstep 1 True (bi_T trivial).symm ⟨fun _ => .inl hPt, fun _ => trivial⟩
      · have hPf := bi_0.mp h0
        rw [he]
        exact ⟨fun hne => hstep 0 False (bi_F id).symm ⟨False.elim, fun hq => hq.elim hPf hne⟩, fun heq => hstep 1 True (bi_T trivial).symm ⟨fun _ => .inr heq, fun _ => trivial⟩⟩
  have h17 : ∀ (n : Nat) (i : Int) (f : Nat) (P : Prop), 0 ≤ i → i < D 0 → (f : Int) + n = dN D i → (∀ P' : Prop, (P' ↔ P ∨ ∃ g : Int, (f : Int) ≤ g ∧ g < dN D i ∧ dTy D i g = 100 + r) → wp S 202 4 [(0, rf 252), (1, iv r), (2, iv (bi P')), (3, iv (i + 1))] [] s Q) → wp S 202 17 [(0, rf 252), (1, iv r), (2, iv (bi P)), (3, iv i), (4, iv f)] [] s Q := by
    intro n
    induction n with
    | zero =>
      intro i f P i0 i1 hf hgo
      have hn8 := (hA.1.2 i i0 i1).2.1
      have hnn : zI s 253 (1 + 26 * i + 1) = dN D i := hm _ (by omega) (by omega)
      exact v_Model_isUsed_17 ⟨⟨by omega, by omega⟩, ⟨by omega, by omega⟩, fun _ => hgo P ⟨.inl, fun hq => by
        rcases hq with hq | ⟨g, g0, g1, -⟩
        · exact hq
        · omega⟩, fun hc => by omega⟩
    | succ n ihn =>
      intro i f P i0 i1 hf hgo
      have hn8 := (hA.1.2 i i0 i1).2.1
      have hnn : zI s 253 (1 + 26 * i + 1) = dN D i := hm _ (by omega) (by omega)
      have he : zI s 253 (1 + 26 * i + 2 + 3 * (f : Int) + 1) = dTy D i f := hm _ (by omega) (by omega)
      have hstep : ∀ (b : Int) (P' : Prop), b = bi P' → (P' ↔ P ∨ dTy D i f = 100 + r) → wp S 202 17 [(0, rf 252), (1, iv r), (2, iv b), (3, iv i), (4, iv ((f : Int) + 1))] [] s Q := fun b P' hb hP' => by
        subst hb
        refine ihn i (f + 1) P' i0 i1 (by omega) fun P2 hP2 => hgo P2 (hP2.trans ⟨fun hq => ?_, fun hq => ?_⟩)
        · rcases hq with hq | ⟨u, u0, u1, u2⟩
          · rcases hP'.mp hq with hq | hq
            · exact .inl hq
            · exact .inr ⟨f, by omega, by omega, hq⟩
          · exact .inr ⟨u, by omega, u1, u2⟩
        · rcases hq with hq | ⟨u, u0, u1, u2⟩
          · exact .inl (hP'.mpr (.inl hq))
          · by_cases hut : u = f
            · exact .inl (hP'.mpr (.inr (by rw [← hut]; exact u2)))
            · exact .inr ⟨u, by omega, u1, u2⟩
      refine v_Model_isUsed_17 ⟨⟨by omega, by omega⟩, ⟨by omega, by omega⟩, fun hc => by omega, fun _ => ⟨bi_rng _, fun h0 => ?_, fun h0 => ⟨⟨by omega, by omega⟩, ⟨by omega, by omega⟩, ?_⟩⟩⟩
      · have hPt : P := Classical.byContradiction fun hn => h0 (bi_0.mpr hn)
        exact hstep 1 True (bi_T trivial).symm ⟨fun _ => .inl hPt, fun _ => trivial⟩
      · have hPf := bi_0.mp h0
        rw [he]
        exact ⟨fun hne => hstep 0 False (bi_F id).symm ⟨False.elim, fun hq => hq.elim hPf hne⟩, fun heq => hstep 1 True (bi_T trivial).symm ⟨fun _ => .inr heq, fun _ => trivial⟩⟩
  have h4 : ∀ (n i : Nat) (P : Prop), (i : Int) + n = D 0 → ((∃ i' : Int, 0 ≤ i' ∧ i' < D 0 ∧ ∃ f : Int, 0 ≤ f ∧ f < dN D i' ∧ dTy D i' f = 100 + r) ↔ P ∨ ∃ i' : Int, (i : Int) ≤ i' ∧ i' < D 0 ∧ ∃ f : Int, 0 ≤ f ∧ f < dN D i' ∧ dTy D i' f = 100 + r) → wp S 202 4 [(0, rf 252), (1, iv r), (2, iv (bi P)), (3, iv i)] [] s Q := by
    intro n
    induction n with
    | zero =>
      intro i P hi hP
      refine v_Model_isUsed_4 ⟨⟨by omega, by omega⟩, fun _ => h71 3 0 P (by omega) ⟨fun hq => ?_, fun hq => ?_⟩, fun hc => by omega⟩
      · rcases hq with hq | ⟨u, u0, u1, u2⟩
        · rcases hP.mp hq with hq | ⟨i', i0, i1, -⟩
          · exact .inl hq
          · omega
        · exact .inr ⟨u, by omega, u1, u2⟩
      · rcases hq with hq | ⟨u, u0, u1, u2⟩
        · exact .inl (hP.mpr (.inl hq))
        · exact .inr ⟨u, by omega, u1, u2⟩
    | succ n ihn =>
      intro i P hi hP
      refine v_Model_isUsed_4 ⟨⟨by omega, by omega⟩, fun hc => by omega, fun _ => h17 (dN D i).toNat i 0 P (by omega) (by omega) (by have := (hA.1.2 i (by omega) (by omega)).2.1; omega) fun P' hP' => ihn (i + 1) P' (by omega) (hP.trans ⟨fun hq => ?_, fun hq => ?_⟩)⟩
      · rcases hq with hq | ⟨i', i0, i1, hf⟩
        · exact .inl (hP'.mpr (.inl hq))
        · by_cases hii : i' = i
          · subst hii
            obtain ⟨f, f0, f1, f2⟩ := hf
            exact .inl (hP'.mpr (.inr ⟨f, by omega, f1, f2⟩))
          · exact .inr ⟨i', by omega, i1, hf⟩
      · rcases hq with hq | ⟨i', i0, i1, hf⟩
        · rcases hP'.mp hq with hq | ⟨f, f0, f1, f2⟩
          · exact .inl hq
          · exact .inr ⟨i, by omega, by omega, f, by omega, f1, f2⟩
        · exact .inr ⟨i', by omega, i1, hf⟩
  have hz := h4 (D 0).toNat 0 False (by omega) ⟨fun hq => .inr (by obtain ⟨i', i0, i1, hf⟩ := hq; exact ⟨i', by omega, i1, hf⟩), fun hq => by
    rcases hq with hq | ⟨i', i0, i1, hf⟩
    · exact hq.elim
    · exact ⟨i', by omega, i1, hf⟩⟩
  rw [bi_F id] at hz
  exact v_Model_isUsed_0 hz
end OPS7
