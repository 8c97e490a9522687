/-! ===== sort of the class ===== -/
theorem zcmp_lt {u v : Int64} : zcmp u v < 0 ↔ u.toInt < v.toInt := by
  have h2 : (u = v) ↔ u.toInt = v.toInt := ⟨fun h => by rw [h], fun h => Int64.toInt_inj.mp h⟩
  have h3 : (u > v) ↔ v.toInt < u.toInt := Int64.lt_iff_toInt_lt
  unfold zcmp
  by_cases h : u > v
  · rw [if_pos h]
    have := h3.mp h
    omega
  · rw [if_neg h]
    have h4 : ¬ v.toInt < u.toInt := fun q => h (h3.mpr q)
    by_cases g : u = v
    · rw [if_pos g]
      have := h2.mp g
      omega
    · rw [if_neg g]
      have h5 : ¬ u.toInt = v.toInt := fun q => g (h2.mpr q)
      omega
theorem zcmp_eq {u v : Int64} : zcmp u v = 0 ↔ u.toInt = v.toInt := zcmp_0.trans ⟨fun h => by rw [h], fun h => Int64.toInt_inj.mp h⟩
/-- memory is other, and cells outside of the picture -/
theorem cPre_memP {P : Int → Prop} {s t : zSt} {D D' : Int → Int} {H : List (Int → Int)} {T : List Int} (h : cPre s D H T) (hD : okD D) (hH : okH H) (hf : frm P s t) (hn : ∀ a, cK a → a ≠ 6 → ¬ P a) (hag : agT D D') (hm : cMm t 6 D') : cPre t D' H T := by
  have e0 : D' 0 = D 0 := hag 0 (by omega) (by omega)
  obtain ⟨⟨a1, a2, a3, a4⟩, b, c, d, e⟩ := h
  have hD0 := hD.1
  refine ⟨⟨?_, ?_, ?_, hm⟩, ?_, ?_, cTx_fr d hf ⟨hn _ (by unfold cK; omega) (by omega), hn _ (by unfold cK; omega) (by omega)⟩, (fI hf (hn _ (by unfold cK; omega) (by omega))).trans e⟩
  · rw [fI hf (hn _ (by unfold cK; omega) (by omega)), e0]; exact a1
  · exact agR_cFl hD (agT_R hag) (cFl_fr a2 hf fun x x0 x1 => hn x (by unfold cK; omega) (by omega))
  · intro u u0 u1
    have hq := cTb_fr (a3 u u0 u1) hf (hn _ (by unfold cK; omega) (by omega))
    have hz := agT_tab hag u0 u1
    unfold cTb at hq ⊢
    rw [hz.1]
    rcases hq with hq | ⟨q1, q2, q3⟩
    · exact .inl hq
    · exact .inr ⟨q1, q2, fun k k0 k1 => by rw [hag _ (by omega) (by omega)]; exact q3 k k0 k1⟩
  · exact agR_cSh hD (agT_R hag) (cSh_fr b hf fun x x0 x1 => hn x (by unfold cK; omega) (by omega))
  · obtain ⟨r1, r2, r3⟩ := c
    have e3 : zI t 2 3 = zI s 2 3 := fI hf (hn _ (by unfold cK; omega) (by omega))
    refine ⟨by rw [e3]; exact r1, ⟨(fI hf (hn _ (by unfold cK; omega) (by omega))).trans r2.1, r2.2⟩, fun i hi => ?_⟩
    rw [e3]
    exact cSt_fr (r3 i hi) (hH i hi).1.2 hf fun x x0 x1 => hn x (by unfold cK; omega) (by omega)
def mvN (o : Nat → Nat) : Nat → Int
  | 0 => 0
  | p + 1 => mvN o p + (if o p = p then 0 else 1)
theorem mvN_b {o : Nat → Nat} : ∀ n : Nat, 0 ≤ mvN o n ∧ mvN o n ≤ n := by
  intro n
  induction n with
  | zero => exact ⟨by show (0 : Int) ≤ 0; omega, by show (0 : Int) ≤ 0; omega⟩
  | succ n ihn =>
    show 0 ≤ mvN o n + _ ∧ mvN o n + _ ≤ _
    split <;> omega
theorem mvN_congr {o p : Nat → Nat} : ∀ n : Nat, (∀ q, q < n → (o q = q ↔ p q = q)) → mvN o n = mvN p n := by
  intro n
  induction n with
  | zero => intro _; rfl
  | succ n ihn =>
    intro h
    show mvN o n + _ = mvN p n + _
    rw [ihn fun q hq => h q (by omega)]
    by_cases hq : o n = n
    · rw [if_pos hq, if_pos ((h n (by omega)).mp hq)]
    · rw [if_neg hq, if_neg fun g => hq ((h n (by omega)).mpr g)]
def cS (x : Int) : Prop := x = 6 ∨ x = 60 ∨ x = 61
section OPS22
variable {S : Option (Nat × (Nat → Int32))} {Q : Option Value ⊕ Nat → zSt → Prop} {s : zSt} {D : Int → Int} {H : List (Int → Int)} {T : List Int}
theorem vOpen_S {u : zSt} {t : Int} (hA : okA D) (hv : isLv D t) (h : vOpen s D t) (hf : frm (fun x => x = 60 ∨ x = 61) s u) : vOpen u D t :=
  vOpen_fr h hf (fun x x0 x1 => by omega) (fun j _ _ => rfl) hA.1 (isLv_ok hA hv) ⟨hv.1, hv.2.1⟩ (cMm_fr h.2.2.2 hf (by omega))
/-- the cells of the order so far -/
def oCl (s : zSt) (V : Nat → Int64) (o : Nat → Nat) (m : Nat) : Prop := ∀ q : Nat, q < m → zI s 60 q = (o q : Int) ∧ zL s 61 q = V (o q)
theorem X_order_34 {V : Nat → Int64} {W : Nat → Int} {d lf_ : Int} {i : Nat} {o : Nat → Nat} (hW : ∀ r, W r = (V r).toInt) (hd : d = 0 ∨ d = 1) (hi : i < 12) (ho : ordD W d i o) : ∀ (p : Nat) (s : zSt), p ≤ i → (∀ q : Nat, q < p → zI s 60 q = (o q : Int) ∧ zL s 61 q = V (o q)) → (∀ q : Nat, p < q → q ≤ i → zI s 60 q = (o (q - 1) : Int) ∧ zL s 61 q = V (o (q - 1))) → (∀ q, p ≤ q → q < i → befD W d i (o q)) →
    (∀ u, frm (fun x => x = 60 ∨ x = 61) s u → ∀ o', ordD W d (i + 1) o' → oCl u V o' (i + 1) → wp S 147 2 [(0, rf 2), (1, iv lf_), (2, iv d), (3, iv (i + 1))] [] u Q) → wp S 147 34 [(0, rf 2), (1, iv lf_), (2, iv d), (3, iv i), (4, .long (V i)), (6, iv p)] [] s Q := by
  intro p
  induction p with
  | zero =>
    intro s hp hlo hhi hbf k1
    have hdr : rng d := by rcases hd with q | q <;> rw [q] <;> exact ⟨by decide, by decide⟩
    refine v_RL_orderRows_34 ⟨⟨by omega, by omega⟩, fun _ => ⟨⟨by omega, by omega⟩, ⟨by omega, by omega⟩, ?_⟩, fun hc => by omega⟩
    refine k1 _ (frm_I (frm_L frm_refl (by omega)) (by omega)) (insO o 0 i) (ord_ins hd ho (Nat.zero_le _) (fun h => absurd h (Nat.lt_irrefl _)) fun q q0 q1 => hbf q q0 q1) fun q hq => ?_
    unfold insO
    rw [if_neg (Nat.not_lt_zero _)]
    by_cases hq0 : q = 0
    · subst hq0
      rw [if_pos rfl, zI_eq, zL_wI, zL_wL, if_pos ⟨rfl, rfl⟩]; exact ⟨rfl, rfl⟩
    · have hz := hhi q (by omega) (by omega)
      rw [if_neg hq0, zI_nj (by omega), zL_wI, zL_wL, if_neg (by omega), zI_wL]
      exact hz
  | succ p ihp =>
    intro s hp hlo hhi hbf k1
    have hdr : rng d := by rcases hd with q | q <;> rw [q] <;> exact ⟨by decide, by decide⟩
    have hpp : (((p + 1 : Nat) : Int) - 1) = (p : Int) := by omega
    have hl := hlo p (by omega)
    have hop := ho.1 p (by omega)
    have hstop : befD W d (o p) i → wp S 147 2 [(0, rf 2), (1, iv lf_), (2, iv d), (3, iv (i + 1))] [] (zwI (zwL s 61 ((p + 1 : Nat) : Int) (V i)) 60 ((p + 1 : Nat) : Int) i) Q := fun hb => by
      refine k1 _ (frm_I (frm_L frm_refl (by omega)) (by omega)) (insO o (p + 1) i) (ord_ins hd ho hp (fun _ => hb) fun q q0 q1 => hbf q q0 q1) fun q hq => ?_
      unfold insO
      by_cases h1 : q < p + 1
      · have hz := hlo q h1
        rw [if_pos h1, zI_nj (by omega), zL_wI, zL_wL, if_neg (by omega), zI_wL]
        exact hz
      · rw [if_neg h1]
        by_cases h2 : q = p + 1
        · subst h2
          rw [if_pos rfl, zI_eq, zL_wI, zL_wL, if_pos ⟨rfl, rfl⟩]; exact ⟨rfl, rfl⟩
        · have hz := hhi q (by omega) (by omega)
          rw [if_neg h2, zI_nj (by omega), zL_wI, zL_wL, if_neg (by omega), zI_wL]
          exact hz
    have hgo : befD W d i (o p) → wp S 147 34 [(0, rf 2), (1, iv lf_), (2, iv d), (3, iv i), (4, .long (V i)), (6, iv (((p + 1 : Nat) : Int) + (-1)))] [] (zwI (zwL s 61 ((p + 1 : Nat) : Int) (zL s 61 p)) 60 ((p + 1 : Nat) : Int) (zI s 60 p)) Q := fun hb => by
      have hfr : frm (fun x => x = 60 ∨ x = 61) s (zwI (zwL s 61 ((p + 1 : Nat) : Int) (zL s 61 p)) 60 ((p + 1 : Nat) : Int) (zI s 60 p)) := frm_I (frm_L frm_refl (by omega)) (by omega)
      have hz := ihp (zwI (zwL s 61 ((p + 1 : Nat) : Int) (zL s 61 p)) 60 ((p + 1 : Nat) : Int) (zI s 60 p)) (by omega) (fun q hq => ?_) (fun q q0 q1 => ?_) (fun q q0 q1 => ?_) fun u hfu => k1 u (frm_trans hfr hfu)
      · rw [show ((p + 1 : Nat) : Int) + (-1) = (p : Int) by omega]
        exact hz
      · have hy := hlo q (by omega)
        rw [zI_nj (by omega), zL_wI, zL_wL, if_neg (by omega), zI_wL]
        exact hy
      · by_cases h2 : q = p + 1
        · subst h2
          rw [zI_eq, zL_wI, zL_wL, if_pos ⟨rfl, rfl⟩, Nat.add_sub_cancel]
          exact hl
        · have hy := hhi q (by omega) q1
          rw [zI_nj (by omega), zL_wI, zL_wL, if_neg (by omega), zI_wL]
          exact hy
      · by_cases h2 : q = p
        · subst h2; exact hb
        · exact hbf q (by omega) q1
    refine v_RL_orderRows_34 ⟨⟨by omega, by omega⟩, fun hc => by omega, fun _ => ⟨hdr, fun h0 => ?_, fun h1 => ?_⟩⟩
    · rw [hpp, hl.2]
      refine ⟨⟨by omega, by omega⟩, fun hz => ⟨⟨by omega, by omega⟩, ⟨by omega, by omega⟩, hstop ?_⟩, fun hz => ⟨⟨by omega, by omega⟩, ?_⟩⟩
      · unfold befD
        rw [hW, hW]
        have e1 := zcmp_lt (u := V (o p)) (v := V i)
        have e2 := zcmp_eq (u := V (o p)) (v := V i)
        omega
      · have hg := hgo (by
          unfold befD
          rw [hW, hW]
          have e1 := zcmp_lt (u := V (o p)) (v := V i)
          have e2 := zcmp_eq (u := V (o p)) (v := V i)
          omega)
        rw [hl.2] at hg
        exact hg
    · rw [hpp, hl.2]
      refine ⟨⟨by omega, by omega⟩, fun hz => ⟨⟨by omega, by omega⟩, ⟨by omega, by omega⟩, hstop ?_⟩, fun hz => ⟨⟨by omega, by omega⟩, ?_⟩⟩
      · unfold befD
        rw [hW, hW]
        have e1 := zcmp_lt (u := V (o p)) (v := V i)
        have e2 := zcmp_eq (u := V (o p)) (v := V i)
        omega
      · have hg := hgo (by
          unfold befD
          rw [hW, hW]
          have e1 := zcmp_lt (u := V (o p)) (v := V i)
          have e2 := zcmp_eq (u := V (o p)) (v := V i)
          omega)
        rw [hl.2] at hg
        exact hg
theorem X_order_2 {t d : Int} {k : Nat} (hA : okA D) (hv : isLv D t) (hk : k < (gV (tG D t)).length) (hd : d = 0 ∨ d = 1) (n : Nat) : ∀ (i : Nat) (s : zSt) (o : Nat → Nat), (i : Int) + n = tNr D t → vOpen s D t → ordD (fun r => (valD D t r k).toInt) d i o → oCl s (fun r => valD D t r k) o i → (∀ u, frm (fun x => x = 60 ∨ x = 61) s u → ∀ o', ordD (fun r => (valD D t r k).toInt) d (tNr D t).toNat o' → oCl u (fun r => valD D t r k) o' (tNr D t).toNat → Q rU u) → wp S 147 2 [(0, rf 2), (1, iv k), (2, iv d), (3, iv i)] [] s Q := by
  have h12 := (isLv_ok hA hv).2.2.1
  induction n with
  | zero =>
    intro i s o hi hop ho hc k1
    have h2 := hop.2.2.1.1
    exact v_RL_orderRows_2 ⟨⟨by omega, by omega⟩, fun _ => k1 s frm_refl o (by rw [show (tNr D t).toNat = i by omega]; exact ho) (by rw [show (tNr D t).toNat = i by omega]; exact hc), fun hc => by omega⟩
  | succ n ihn =>
    intro i s o hi hop ho hc k1
    have h2 := hop.2.2.1.1
    refine v_RL_orderRows_2 ⟨⟨by omega, by omega⟩, fun hc => by omega, fun _ => X_read hA hv hop hk ⟨by omega, by omega⟩ (zkL_L ?_)⟩
    refine X_order_34 (V := fun r => valD D t r k) (W := fun r => (valD D t r k).toInt) (o := o) (fun r => rfl) hd (by omega) ho i s (Nat.le_refl _) hc (fun q q0 q1 => by omega) (fun q q0 q1 => by omega) fun u hfu o' ho' hcu => ?_
    exact ihn (i + 1) u o' (by omega) (vOpen_S hA hv hop hfu) ho' hcu fun w hfw => k1 w (frm_trans hfu hfw)
theorem X_orderRows {t d : Int} {k : Nat} (hA : okA D) (hv : isLv D t) (hop : vOpen s D t) (hk : k < (gV (tG D t)).length) (hd : d = 0 ∨ d = 1) (k1 : ∀ u, frm (fun x => x = 60 ∨ x = 61) s u → ∀ o', ordD (fun r => (valD D t r k).toInt) d (tNr D t).toNat o' → oCl u (fun r => valD D t r k) o' (tNr D t).toNat → Q rU u) : wp S 147 0 [(0, rf 2), (1, iv k), (2, iv d)] [] s Q :=
  v_RL_orderRows_0 (X_order_2 (o := fun q => q) hA hv hk hd (tNr D t).toNat 0 s (by have := (isLv_ok hA hv).2.2.1; omega) hop ⟨fun q h => absurd h (Nat.not_lt_zero _), fun a b _ h => absurd h (Nat.not_lt_zero _), fun r h => absurd h (Nat.not_lt_zero _)⟩ (fun q h => absurd h (Nat.not_lt_zero _)) k1)
end OPS22
