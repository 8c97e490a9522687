/-! ===== compact of the class ===== -/
def cA (c : Int) : Int := if c = -1 then -1 else 31 + c
section OPS31
variable {S : Option (Nat × (Nat → Int32))} {Q : Option Value ⊕ Nat → zSt → Prop} {s : zSt} {D F : Int → Int} {H : List (Int → Int)} {T : List Int}
theorem zi2b_id {x : Int} (h : -128 ≤ x ∧ x ≤ 127) : zi2b x = x := by
  rw [zi2b_eq ⟨by omega, by omega⟩]
  unfold Int.bmod
  simp only
  split <;> omega
/-- the rows of the tables in the class -/
def cT3 (s : zSt) (F : Int → Int) : Prop := ∀ v, 0 ≤ v → v < 3 → cTb s (31 + v) F v
theorem cT3_live {v : Int} (h : cT3 s F) (h0 : 0 ≤ v) (h1 : v < 3) : (zI s (31 + v) 0 ≠ 0 ↔ tRc F v ≠ -1) ∧ (tRc F v ≠ -1 → zI s (31 + v) 5 = tBs F v ∧ zI s (31 + v) 6 = tBy F v) := by
  rcases h v h0 h1 with ⟨q1, q2⟩ | ⟨q1, q2, q3⟩
  · exact ⟨⟨fun hc => absurd q2 hc, fun hc => absurd q1 hc⟩, fun hc => absurd q1 hc⟩
  · exact ⟨⟨fun _ => q1, fun _ => by omega⟩, fun _ => ⟨q3 4 (by omega) (by omega), q3 5 (by omega) (by omega)⟩⟩
theorem X_first_4 {e : Int} (hA : okA F) (he : rng e) (h3 : cT3 s F) (k1 : Q (.inl (some (orf (cA (nxtD F e 3 0 (-1)))))) s) (n : Nat) : ∀ v c : Int, 0 ≤ v → v + n = 3 → (c = -1 ∨ (isLv F c ∧ e ≤ tBs F c)) → nxtD F e 3 0 (-1) = nxtD F e n v c → wp S 23 4 [(0, rf 2), (1, iv e), (2, orf (cA c)), (3, iv v)] [] s Q := by
  have hcO : ∀ c : Int, (c = -1 ∨ (isLv F c ∧ e ≤ tBs F c)) → 0 ≤ cA c → isO (cA c) 6 := fun c hc h0 => by
    unfold cA at h0 ⊢
    by_cases hq : c = -1
    · rw [if_pos hq] at h0; omega
    · rw [if_neg hq]
      rcases hc with q | q
      · exact absurd q hq
      · have hz := isO_tab (c := 3) (t := c) lf_3 ⟨q.1.1, q.1.2.1⟩
        rw [show (3 : Int) + 28 + c = 31 + c by omega] at hz
        exact hz
  induction n with
  | zero =>
    intro v c h0 h1 hc heq
    have heq' : nxtD F e 3 0 (-1) = c := heq
    rw [heq'] at k1
    exact v_RL_firstTableFrom_4 (hcO c hc) ⟨⟨by omega, by omega⟩, fun _ => k1, fun hc => by omega⟩
  | succ n ihn =>
    intro v c h0 h1 hc heq
    have hv3 : v < 3 := by omega
    obtain ⟨g1, g2⟩ := cT3_live h3 h0 hv3
    have hkeep : ¬ (tRc F v ≠ -1 ∧ e ≤ tBs F v ∧ (c = -1 ∨ tBs F v < tBs F c)) → wp S 23 4 [(0, rf 2), (1, iv e), (2, orf (cA c)), (3, iv (v + 1))] [] s Q := fun hn =>
      ihn (v + 1) c (by omega) (by omega) hc (heq.trans (by show nxtD F e n (v + 1) _ = _; rw [if_neg hn]))
    have htake : (tRc F v ≠ -1 ∧ e ≤ tBs F v ∧ (c = -1 ∨ tBs F v < tBs F c)) → wp S 23 4 [(0, rf 2), (1, iv e), (2, rf (31 + v)), (3, iv (v + 1))] [] s Q := fun hn => by
      have hz := ihn (v + 1) v (by omega) (by omega) (.inr ⟨⟨h0, hv3, hn.1⟩, hn.2.1⟩) (heq.trans (by show nxtD F e n (v + 1) _ = _; rw [if_pos hn]))
      have hcv : cA v = 31 + v := by unfold cA; rw [if_neg (by omega)]
      rw [hcv, orf_pos (by omega)] at hz
      exact hz
    refine v_RL_firstTableFrom_4 (hcO c hc) ⟨⟨by omega, by omega⟩, fun hc => by omega, fun _ => ⟨⟨h0, hv3⟩, fun hz => hkeep fun hn => (g1.mpr hn.1) hz, fun hz => ⟨he, ?_⟩⟩⟩
    have hl := g1.mp hz
    rw [(g2 hl).1]
    refine ⟨fun hlt => hkeep fun hn => by have := hn.2.1; omega, fun hge => ⟨fun hneg => ?_, fun hpos => ?_⟩⟩
    · refine htake ⟨hl, hge, .inl ?_⟩
      unfold cA at hneg
      by_cases hq : c = -1
      · exact hq
      · rw [if_neg hq] at hneg
        rcases hc with q | q
        · exact q
        · have := q.1.1; omega
    · have hcn : c ≠ -1 := fun q => by unfold cA at hpos; rw [if_pos q] at hpos; omega
      have hcl : isLv F c := by
        rcases hc with q | q
        · exact absurd q hcn
        · exact q.1
      have hca : cA c = 31 + c := by unfold cA; rw [if_neg hcn]
      have hcb := (cT3_live h3 hcl.1 hcl.2.1).2 hcl.2.2
      rw [hca, hcb.1]
      refine ⟨fun hle => ?_, fun hlt => htake ⟨hl, hge, .inr hlt⟩⟩
      have hz := hkeep fun hn => by
        rcases hn.2.2 with q | q
        · exact hcn q
        · omega
      rw [hca, orf_pos (by have := hcl.1; omega)] at hz
      exact hz
theorem X_first {e : Int} (hA : okA F) (he : rng e) (h3 : cT3 s F) (k1 : Q (.inl (some (orf (cA (nxtD F e 3 0 (-1)))))) s) : wp S 23 0 [(0, rf 2), (1, iv e)] [] s Q := by
  have hz := X_first_4 (S := S) hA he h3 k1 3 0 (-1) (by omega) (by omega) (.inl rfl) rfl
  have hn : cA (-1) = -1 := if_pos rfl
  rw [hn, orf_neg (by omega)] at hz
  exact v_RL_firstTableFrom_0 hz
theorem X_copyMem_12 {a b : Int} {m : Nat} (ha : 0 ≤ a ∧ a + m ≤ 1024) (hb : 0 ≤ b ∧ b ≤ a) (n : Nat) : ∀ (i : Nat) (s : zSt), i + n = m → cMm s 6 (cpyD F a b i) → (∀ u, frm (fun x => x = 6) s u → cMm u 6 (cpyD F a b m) → Q rU u) → wp S 25 12 [(0, rf 2), (1, iv a), (2, iv b), (3, iv m), (4, iv i)] [] s Q := by
  induction n with
  | zero =>
    intro i s hi hm k1
    rw [show m = i by omega] at k1 ⊢
    exact v_RL_copyMemory_12 ⟨⟨by omega, by omega⟩, ⟨by omega, by omega⟩, fun _ => k1 s frm_refl hm, fun hc => by omega⟩
  | succ n ihn =>
    intro i s hi hm k1
    refine v_RL_copyMemory_12 ⟨⟨by omega, by omega⟩, ⟨by omega, by omega⟩, fun hc => by omega, fun _ => ⟨⟨by omega, by omega⟩, fun hc => by omega, fun _ => ⟨⟨by omega, by omega⟩, fun hc => by omega, fun _ => ⟨⟨by omega, by omega⟩, ⟨by omega, by omega⟩, ?_⟩⟩⟩⟩
    have hz := hm (a + i) (by omega) (by omega)
    rw [zi2b_id hz.2]
    have hf : frm (fun x => x = 6) s (zwI s 6 (b + i) (zI s 6 (a + i))) := frm_I frm_refl rfl
    refine ihn (i + 1) _ (by omega) (fun j q0 q1 => ?_) fun u hfu hmu => k1 u (frm_trans hf hfu) hmu
    show upD (cpyD F a b i) (175 + b + i) (cpyD F a b i (175 + a + i)) (175 + j) = _ ∧ _
    by_cases hj : j = b + i
    · subst hj
      rw [show 175 + (b + (i : Int)) = 175 + b + i by omega, upD_eq, zI_eq, ← show 175 + (a + (i : Int)) = 175 + a + i by omega]
      exact hz
    · rw [upD_ne (by omega), zI_nj hj]; exact hm j q0 q1
theorem X_copyMem {a b : Int} {m : Nat} (ha : 0 ≤ a ∧ a + m ≤ 1024) (hb : 0 ≤ b ∧ b ≤ a) (hm : cMm s 6 F) (k1 : ∀ u, frm (fun x => x = 6) s u → cMm u 6 (cpyD F a b m) → Q rU u) : wp S 25 0 [(0, rf 2), (1, iv a), (2, iv b), (3, iv m)] [] s Q :=
  v_RL_copyMemory_0 ⟨⟨by omega, by omega⟩, fun hc => by omega, fun _ => ⟨⟨by omega, by omega⟩, fun _ => X_copyMem_12 ha hb m 0 s (Nat.zero_add _) hm k1, fun hc => by omega⟩⟩
theorem X_comp_10 {w : zSt} (hA : okA D) (hH : okHs H) (hw : cPre w D H T) (k1 : ∀ u, frm clsC w u → cRel u (cmD D 3).1 H T → Q (rI (cmD D 3).2.1) u) (n : Nat) : ∀ (i : Nat) (s : zSt), i + n = 3 → frm (fun x => x = 6 ∨ (31 ≤ x ∧ x ≤ 33)) w s → cT3 s (cmD D i).1 → cMm s 6 (cmD D i).1 → wp S 17 10 [(0, rf 2), (1, iv (cmD D i).2.1), (2, iv (cmD D i).2.2), (3, iv i)] [] s Q := by
  have hend : ∀ (i : Nat) (s : zSt), cmD D 3 = cmD D i → frm (fun x => x = 6 ∨ (31 ≤ x ∧ x ≤ 33)) w s → cT3 s (cmD D i).1 → cMm s 6 (cmD D i).1 → Q (rI (cmD D i).2.1) s := fun i s he hf h3 hm => by
    rw [he] at k1
    obtain ⟨⟨last, hI⟩, -⟩ := cmD_ok hA i
    exact k1 s (frm_mono hf fun x hx => by unfold clsC; omega) (cPre_tab hw hA hH (frm_mono hf fun x hx => by omega) hI.2.1 h3 hm)
  induction n with
  | zero =>
    intro i s hi hf h3 hm
    exact v_RL_compact_10 ⟨⟨by omega, by omega⟩, fun _ => hend i s (by rw [show (3 : Nat) = i by omega]) hf h3 hm, fun hc => by omega⟩
  | succ n ihn =>
    intro i s hi hf h3 hm
    obtain ⟨⟨last, hI⟩, hm0, hm1⟩ := cmD_ok hA i
    have hE := hI.2.2.1
    refine v_RL_compact_10 ⟨⟨by omega, by omega⟩, fun hc => by omega, fun _ => X_first hI.1 ⟨by omega, by omega⟩ h3 ?_⟩
    obtain ⟨a1, a2, a3⟩ := nxt_p (F := (cmD D i).1) (e := (cmD D i).2.2) 3 0 (-1) (by omega) (by omega) (.inl rfl)
    refine ⟨_, rfl, ?_⟩
    by_cases h : nxtD (cmD D i).1 (cmD D i).2.2 3 0 (-1) = -1
    · have hn : cA (nxtD (cmD D i).1 (cmD D i).2.2 3 0 (-1)) = -1 := if_pos h
      rw [hn]
      have hst := stp_none h (3 - i)
      rw [show i + (3 - i) = 3 by omega] at hst
      exact ⟨fun hc => by omega, fun hc => by omega, fun _ => hend i s hst hf h3 hm⟩
    · have hst := stp_some h
      have hih := ihn (i + 1)
      rw [hst] at hih
      dsimp only at hih
      rcases a1 with q | ⟨q1, q2⟩
      · exact absurd q h
      have hmin := fun u (hu : isLv (cmD D i).1 u) he => (a2 u hu.1 hu.2.1 hu.2.2 he).2
      generalize hv : nxtD (cmD D i).1 (cmD D i).2.2 3 0 (-1) = v at *
      have hcv : cA v = 31 + v := by unfold cA; rw [if_neg h]
      have v0 := q1.1
      have v1 := q1.2.1
      obtain ⟨z1, z2⟩ := mov_ok hI q1 q2 hmin
      have hT := isLv_ok hI.1 q1
      have hby := tBy_pos hI.1 q1
      have hbe := hT.2.2.2.2.2.2.2
      obtain ⟨b1, b2, b3, b4, b5, b6, b7, b8⟩ := mov_at (b := zup (cmD D i).2.2 16) q1 z1.1
      have hO := isO_tab (c := 3) (t := v) lf_3 ⟨v0, v1⟩
      rw [show (3 : Int) + 28 + v = 31 + v by omega] at hO
      obtain ⟨g1, g2⟩ := cT3_live h3 v0 v1
      obtain ⟨g3, g4⟩ := g2 q1.2.2
      rw [hcv]
      refine ⟨fun _ => hO, fun _ => ⟨.inr (.inr (.inr (.inr (by omega)))), hE.1, by omega, ⟨by omega, by omega⟩, ?_⟩, fun hc => by omega⟩
      rw [g3]
      refine ⟨fun heq => ?_, fun hne => ?_⟩
      · rw [g4]
        have hz := hih s (by omega) hf ?_ ?_
        · rw [if_pos heq, Int.add_zero] at hz
          exact hz
        · intro u u0 u1
          by_cases huv : u = v
          · subst huv
            right
            rcases h3 u u0 u1 with ⟨c1, -⟩ | ⟨c1, c2, c3⟩
            · exact absurd c1 q1.2.2
            · refine ⟨by rw [b3]; exact c1, c2, fun k k0 k1 => ?_⟩
              rw [c3 k k0 k1]
              have hk : k = 0 ∨ k = 1 ∨ k = 2 ∨ k = 3 ∨ k = 4 ∨ k = 5 := by omega
              rcases hk with q | q | q | q | q | q <;> subst q
              · rw [Int.add_zero]; exact b3.symm
              · exact b4.symm
              · exact b5.symm
              · exact b6.symm
              · exact (b7.trans heq).symm
              · exact b8.symm
          · have hq := h3 u u0 u1
            have hk0 := b2 u u0 u1 huv 0 (by omega) (by omega)
            rw [Int.add_zero] at hk0
            unfold cTb tRc at hq ⊢
            rw [hk0]
            rcases hq with hq | ⟨c1, c2, c3⟩
            · exact .inl hq
            · exact .inr ⟨c1, c2, fun k k0 k1 => by rw [b2 u u0 u1 huv k k0 k1]; exact c3 k k0 k1⟩
        · intro j j0 j1
          unfold movD
          rw [upD_ne (by omega), heq, cpy_same]
          exact hm j j0 j1
      · have hmy : ((tBy (cmD D i).1 v).toNat : Int) = tBy (cmD D i).1 v := Int.toNat_of_nonneg (by omega)
        rw [g4, ← hmy]
        refine X_copyMem (F := (cmD D i).1) ⟨by omega, by omega⟩ ⟨z1.1, by omega⟩ hm fun u hfu hmu => zkU_U ?_
        have g4u : zI u (31 + v) 6 = tBy (cmD D i).1 v := (fI hfu (by omega)).trans g4
        rw [g4u]
        have hf5 : frm (fun x => x = 31 + v) u (zwI u (31 + v) 5 (zup (cmD D i).2.2 16)) := frm_I frm_refl rfl
        have hz := hih (zwI u (31 + v) 5 (zup (cmD D i).2.2 16)) (by omega) (frm_trans hf (frm_trans (frm_mono hfu fun x hx => by omega) (frm_mono hf5 fun x hx => by omega))) ?_ ?_
        · rw [if_neg hne] at hz
          exact hz
        · intro x x0 x1
          by_cases hxv : x = v
          · subst hxv
            right
            rcases h3 x x0 x1 with ⟨c1, -⟩ | ⟨c1, c2, c3⟩
            · exact absurd c1 q1.2.2
            · refine ⟨by rw [b3]; exact c1, by rw [zI_nj (by omega), fI hfu (by omega)]; exact c2, fun k k0 k1 => ?_⟩
              have hk : k = 0 ∨ k = 1 ∨ k = 2 ∨ k = 3 ∨ k = 4 ∨ k = 5 := by omega
              rcases hk with q | q | q | q | q | q <;> subst q
              · rw [zI_nj (by omega), fI hfu (by omega), c3 0 (by omega) (by omega), Int.add_zero]; exact b3.symm
              · rw [zI_nj (by omega), fI hfu (by omega), c3 1 (by omega) (by omega)]; exact b4.symm
              · rw [zI_nj (by omega), fI hfu (by omega), c3 2 (by omega) (by omega)]; exact b5.symm
              · rw [zI_nj (by omega), fI hfu (by omega), c3 3 (by omega) (by omega)]; exact b6.symm
              · exact zI_eq.trans b7.symm
              · rw [zI_nj (by omega), fI hfu (by omega), c3 5 (by omega) (by omega)]; exact b8.symm
          · have hq := cTb_fr (cTb_fr (h3 x x0 x1) hfu (by omega)) hf5 (by omega)
            have hk0 := b2 x x0 x1 hxv 0 (by omega) (by omega)
            rw [Int.add_zero] at hk0
            unfold cTb tRc at hq ⊢
            rw [hk0]
            rcases hq with hq | ⟨c1, c2, c3⟩
            · exact .inl hq
            · exact .inr ⟨c1, c2, fun k k0 k1 => by rw [b2 x x0 x1 hxv k k0 k1]; exact c3 k k0 k1⟩
        · intro j j0 j1
          unfold movD
          rw [upD_ne (by omega), fI hf5 (by omega)]
          exact hmu j j0 j1
theorem X_compact (hA : okA D) (hH : okHs H) (h : cRel s D H T) (k1 : ∀ u, frm clsC s u → cRel u (cmD D 3).1 (pushH H D) T → Q (rI (cmD D 3).2.1) u) : wp S 17 0 [(0, rf 2)] [] s Q := by
  refine v_RL_compact_0 (X_save hA hH h fun w hfw hcw => zkU_U ?_)
  refine X_comp_10 hA (okHs_push hH hA) hcw (fun u hfu hcu => k1 u (frm_trans hfw hfu) hcu) 3 0 w rfl frm_refl (fun v v0 v1 => ?_) ?_
  · have hz := hcw.1.2.2.1 v v0 v1
    rw [show (3 : Int) + 28 + v = 31 + v by omega] at hz
    exact hz
  · have hz := hcw.1.2.2.2
    rw [show (3 : Int) + 3 = 6 by omega] at hz
    exact hz
end OPS31
