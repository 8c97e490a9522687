/-! ===== the law: cases ===== -/
section LW3
variable {S : Option (Nat × (Nat → Int32))} {Q : Option Value ⊕ Nat → zSt → Prop} {L : Nat} {xs : Nat → Int32} {x4 : Int}
theorem lw_undo {m : Nat} {s : zSt} {D : Int → Int} {H : List (Int → Int)} {T : List Int} (hS : S = some (L, xs)) (hO : okS D H T) (hc : cRel s D H T) (hm : mRel s D H T) (h1 : zc s ≤ 274 + m) (h2 : zn s ≤ 60000 + 6 * m) (hx : x4 = 7 * m) (hL : 7 * (m : Int) + 7 ≤ L) (hL2 : L ≤ 3584) (hk : ∀ u, lwI (m + 1) u → wp S 276 23 [(0, rf 0), (1, rf 2), (2, rf 252), (3, rf 275), (4, iv (x4 + 7))] [] u Q) : wp S 276 2850 [(0, rf 0), (1, rf 2), (2, rf 252), (3, rf 275), (4, iv x4)] [] s Q := by
  obtain ⟨hA, hN, hH, hHn, hT⟩ := hO
  have hO : okS D H T := ⟨hA, hN, hH, hHn, hT⟩
  exact v_Law_law_2850 hS (v_Law_undo_0 (X_undo hA hH hc
    (fun a1 => zkI_T (⟨rfl, zkI_I ⟨by omega, by omega⟩ (M_undo (lw_midT hm frm_refl) (fun b1 u hfu h3 hmu => lw_fT (by decide) h3 (hk u (lw_ref hO frm_refl hc hfu hmu h1 h2))) (fun b1 u hfu h3 hmu => (by exfalso; first | exact a1 b1 | exact b1 a1 | exact a2 b2 | exact b2 a2 | exact a3 b3 | exact b3 a3 | exact a1 ⟨b1, b2⟩ | exact b1 ⟨a1, a2⟩ | exact a1 ⟨b1, b2, b3⟩ | exact b1 ⟨a1, a2, a3⟩ | omega)))⟩))
    (fun a1 w hfw hcw => zkI_any (zkI_I ⟨by omega, by omega⟩ (M_undo (lw_mid hm hfw) (fun b1 u hfu h3 hmu => (by exfalso; first | exact a1 b1 | exact b1 a1 | exact a2 b2 | exact b2 a2 | exact a3 b3 | exact b3 a3 | exact a1 ⟨b1, b2⟩ | exact b1 ⟨a1, a2⟩ | exact a1 ⟨b1, b2, b3⟩ | exact b1 ⟨a1, a2, a3⟩ | omega)) (fun b1 u hfu h3 hmu => lw_fI h3 (lw_at hfu) (hk u (lw_ans (okS_undo hO a1) hfw hcw hfu hmu h1 h2))))))))
end LW3
