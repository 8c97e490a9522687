/-! ===== bytes of a value, by class and reference ===== -/
section RAW
variable {S : Option (Nat × (Nat → Int32))} {Q : Option Value ⊕ Nat → zSt → Prop}
theorem C_rawAt_6 {s : zSt} {v at_ n ord : Int} {D : Int → Int} (hv : isO v 8) (hord : zI s v 1 = ord) (hm : cMm s 6 D) (ha : 0 ≤ at_ ∧ at_ + n ≤ 1024) (hn : 0 ≤ n ∧ n ≤ 8) (h1 : Q (rL (rawV D at_ n ord)) s) (m : Nat) : ∀ k : Nat, (k : Int) + m = n → wp S 127 6 [(0, rf v), (1, rf 6), (2, iv at_), (3, iv n), (4, .long (rawN D at_ n ord k)), (6, iv k)] [] s Q := by
  induction m with
  | zero =>
    intro k hk
    refine v_View_rawAt_6 hv lf_6 ⟨⟨by omega, by omega⟩, ⟨by omega, by omega⟩, fun _ => ?_, fun hc => by omega⟩
    rw [show k = n.toNat by omega]
    exact h1
  | succ m ihm =>
    intro k hk
    have hrec := ihm (k + 1) (by omega)
    have hb : ∀ j, 0 ≤ j → j < 1024 → zand (zI s 6 j) 255 = D (175 + j) := fun j q0 q1 => by
      obtain ⟨h2, h3⟩ := hm j q0 q1
      rw [zand_255 h3, h2]
    have hstep : ∀ j, j = bAt at_ n ord k → zshlL (rawN D at_ n ord k) 8 ||| zi2l (D (175 + j)) = rawN D at_ n ord (k + 1) := fun j hj => by rw [hj]; rfl
    refine v_View_rawAt_6 hv lf_6 ⟨⟨by omega, by omega⟩, ⟨by omega, by omega⟩, fun hc => by omega, fun _ => ?_⟩
    rw [hord]
    refine ⟨fun ho => ⟨⟨by omega, by omega⟩, fun hc => by omega, fun _ => ⟨fun hc => by omega, fun _ => ⟨⟨by omega, by omega⟩, ?_⟩⟩⟩, fun ho => ⟨⟨by omega, by omega⟩, fun hc => by omega, fun _ => ⟨fun hc => by omega, fun _ => ⟨⟨by omega, by omega⟩, ?_⟩⟩⟩⟩
    · rw [hb _ (by omega) (by omega), hstep _ (by unfold bAt; rw [if_neg ho])]
      exact hrec
    · rw [hb _ (by omega) (by omega), hstep _ (by unfold bAt; rw [if_pos ho])]
      exact hrec
theorem C_rawAt {s : zSt} {v at_ n ord : Int} {D : Int → Int} (hv : isO v 8) (hord : zI s v 1 = ord) (hm : cMm s 6 D) (ha : 0 ≤ at_ ∧ at_ + n ≤ 1024) (hn : 0 ≤ n ∧ n ≤ 8) (h1 : Q (rL (rawV D at_ n ord)) s) : wp S 127 0 [(0, rf v), (1, rf 6), (2, iv at_), (3, iv n)] [] s Q :=
  v_View_rawAt_0 hv lf_6 (C_rawAt_6 hv hord hm ha hn h1 n.toNat 0 (by omega))
theorem C_taken_6 {s : zSt} {at_ n ord : Int} {D : Int → Int} (hord : rng ord) (hm : mD s D) (ha : 0 ≤ at_ ∧ at_ + n ≤ 1024) (hn : 0 ≤ n ∧ n ≤ 8) (h1 : Q (rL (rawV D at_ n ord)) s) (m : Nat) : ∀ k : Nat, (k : Int) + m = n → wp S 249 6 [(0, rf 252), (1, iv at_), (2, iv n), (3, iv ord), (4, .long (rawN D at_ n ord k)), (6, iv k)] [] s Q := by
  induction m with
  | zero =>
    intro k hk
    refine v_Model_taken_6 ⟨⟨by omega, by omega⟩, ⟨by omega, by omega⟩, fun _ => ?_, fun hc => by omega⟩
    rw [show k = n.toNat by omega]
    exact h1
  | succ m ihm =>
    intro k hk
    have hrec := ihm (k + 1) (by omega)
    have hstep : ∀ j, j = bAt at_ n ord k → zshlL (rawN D at_ n ord k) 8 ||| zi2l (D (175 + j)) = rawN D at_ n ord (k + 1) := fun j hj => by rw [hj]; rfl
    refine v_Model_taken_6 ⟨⟨by omega, by omega⟩, ⟨by omega, by omega⟩, fun hc => by omega, fun _ => ⟨hord, fun ho => ⟨⟨by omega, by omega⟩, ?_⟩, fun ho => ⟨⟨by omega, by omega⟩, ?_⟩⟩⟩
    · rw [hm _ (by omega) (by omega), hstep _ (by unfold bAt; rw [if_neg ho])]
      exact hrec
    · rw [hm _ (by omega) (by omega), hstep _ (by unfold bAt; rw [if_pos ho])]
      exact hrec
theorem C_taken {s : zSt} {at_ n ord : Int} {D : Int → Int} (hord : rng ord) (hm : mD s D) (ha : 0 ≤ at_ ∧ at_ + n ≤ 1024) (hn : 0 ≤ n ∧ n ≤ 8) (h1 : Q (rL (rawV D at_ n ord)) s) : wp S 249 0 [(0, rf 252), (1, iv at_), (2, iv n), (3, iv ord)] [] s Q :=
  v_Model_taken_0 (C_taken_6 hord hm ha hn h1 n.toNat 0 (by omega))
theorem C_putRaw_3 {v at_ n ord : Int} {D : Int → Int} {u : Int64} (hv : isO v 8) (hv6 : v ≠ 6) (ha : 0 ≤ at_ ∧ at_ + n ≤ 1024) (hn : 0 ≤ n ∧ n ≤ 8) (m : Nat) : ∀ (k : Nat) (s : zSt), (k : Int) + m = n → zI s v 1 = ord → cMm s 6 (putN D at_ n ord u k) → (∀ t, frm (fun x => x = 6) s t → cMm t 6 (putV D at_ n ord u) → Q rU t) → wp S 132 3 [(0, rf v), (1, rf 6), (2, iv at_), (3, iv n), (4, .long u), (6, iv k)] [] s Q := by
  induction m with
  | zero =>
    intro k s hk hord hm hQ
    refine v_View_putRaw_3 hv lf_6 ⟨⟨by omega, by omega⟩, ⟨by omega, by omega⟩, fun _ => hQ s frm_refl ?_, fun hc => by omega⟩
    unfold putV
    rw [show n.toNat = k by omega]
    exact hm
  | succ m ihm =>
    intro k s hk hord hm hQ
    have hby := byte_eq (zshrL u (8 * (k : Int)))
    have hstep : ∀ j, j = pAt at_ n ord k → cMm (zwI s 6 j (zi2b (zi2b (zl2i (zshrL u (8 * (k : Int))))))) 6 (putN D at_ n ord u (k + 1)) := by
      intro j hj i q0 q1
      show (if 175 + i = 175 + pAt at_ n ord k then _ else putN D at_ n ord u k (175 + i)) = _ ∧ _
      rw [← hj]
      by_cases hij : i = j
      · subst hij
        rw [if_pos rfl, zI_eq]
        exact ⟨hby.1.symm, hby.2⟩
      · rw [if_neg (by omega), zI_nj hij]
        exact hm i q0 q1
    have hgo : ∀ j, j = pAt at_ n ord k → wp S 132 3 [(0, rf v), (1, rf 6), (2, iv at_), (3, iv n), (4, .long u), (6, iv ((k : Int) + 1))] [] (zwI s 6 j (zi2b (zi2b (zl2i (zshrL u (8 * (k : Int))))))) Q := fun j hj =>
      ihm (k + 1) _ (by omega) (by rw [zI_ne hv6]; exact hord) (hstep j hj) fun t hft hct => hQ t (frm_trans (frm_I frm_refl rfl) hft) hct
    refine v_View_putRaw_3 hv lf_6 ⟨⟨by omega, by omega⟩, ⟨by omega, by omega⟩, fun hc => by omega, fun _ => ?_⟩
    rw [hord]
    refine ⟨fun ho => ⟨⟨by omega, by omega⟩, fun hc => by omega, fun _ => ⟨fun hc => by omega, fun _ => ⟨⟨by omega, by omega⟩, hgo _ (by unfold pAt; rw [if_neg ho])⟩⟩⟩, fun ho => ⟨⟨by omega, by omega⟩, fun hc => by omega, fun _ => ⟨fun hc => by omega, fun _ => ⟨⟨by omega, by omega⟩, hgo _ (by unfold pAt; rw [if_pos ho])⟩⟩⟩⟩
theorem C_putRaw {s : zSt} {v at_ n ord : Int} {D : Int → Int} {u : Int64} (hv : isO v 8) (hv6 : v ≠ 6) (hord : zI s v 1 = ord) (hm : cMm s 6 D) (ha : 0 ≤ at_ ∧ at_ + n ≤ 1024) (hn : 0 ≤ n ∧ n ≤ 8) (hQ : ∀ t, frm (fun x => x = 6) s t → cMm t 6 (putV D at_ n ord u) → Q rU t) : wp S 132 0 [(0, rf v), (1, rf 6), (2, iv at_), (3, iv n), (4, .long u)] [] s Q :=
  v_View_putRaw_0 hv lf_6 (C_putRaw_3 hv hv6 ha hn n.toNat 0 s (by omega) hord hm hQ)
theorem C_puts_3 {at_ n ord : Int} {D : Int → Int} {u : Int64} (hord : rng ord) (ha : 0 ≤ at_ ∧ at_ + n ≤ 1024) (hn : 0 ≤ n ∧ n ≤ 8) (m : Nat) : ∀ (k : Nat) (s : zSt), (k : Int) + m = n → mD s (putN D at_ n ord u k) → (∀ t, frm (fun x => x = 253) s t → mD t (putV D at_ n ord u) → Q rU t) → wp S 253 3 [(0, rf 252), (1, iv at_), (2, iv n), (3, iv ord), (4, .long u), (6, iv k)] [] s Q := by
  induction m with
  | zero =>
    intro k s hk hm hQ
    refine v_Model_puts_3 ⟨⟨by omega, by omega⟩, ⟨by omega, by omega⟩, fun _ => hQ s frm_refl ?_, fun hc => by omega⟩
    unfold putV
    rw [show n.toNat = k by omega]
    exact hm
  | succ m ihm =>
    intro k s hk hm hQ
    have hgo : ∀ j, j = 175 + pAt at_ n ord k → wp S 253 3 [(0, rf 252), (1, iv at_), (2, iv n), (3, iv ord), (4, .long u), (6, iv ((k : Int) + 1))] [] (zwI s 253 j (zl2i (zshrL u (8 * (k : Int)) &&& 255))) Q := fun j hj => by
      refine ihm (k + 1) _ (by omega) (fun i q0 q1 => ?_) fun t hft hct => hQ t (frm_trans (frm_I frm_refl rfl) hft) hct
      show _ = (if i = 175 + pAt at_ n ord k then _ else putN D at_ n ord u k i)
      rw [← hj]
      by_cases hij : i = j
      · subst hij; rw [if_pos rfl, zI_eq]
      · rw [if_neg hij, zI_nj hij]; exact hm i q0 q1
    refine v_Model_puts_3 ⟨⟨by omega, by omega⟩, ⟨by omega, by omega⟩, fun hc => by omega, fun _ => ⟨hord, fun ho => ⟨⟨by omega, by omega⟩, hgo _ (by unfold pAt; rw [if_neg ho])⟩, fun ho => ⟨⟨by omega, by omega⟩, hgo _ (by unfold pAt; rw [if_pos ho])⟩⟩⟩
theorem C_puts {s : zSt} {at_ n ord : Int} {D : Int → Int} {u : Int64} (hord : rng ord) (hm : mD s D) (ha : 0 ≤ at_ ∧ at_ + n ≤ 1024) (hn : 0 ≤ n ∧ n ≤ 8) (hQ : ∀ t, frm (fun x => x = 253) s t → mD t (putV D at_ n ord u) → Q rU t) : wp S 253 0 [(0, rf 252), (1, iv at_), (2, iv n), (3, iv ord), (4, .long u)] [] s Q :=
  v_Model_puts_0 (C_puts_3 hord ha hn n.toNat 0 s (by omega) hm hQ)
end RAW
