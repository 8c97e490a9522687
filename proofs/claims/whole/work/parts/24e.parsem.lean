/-! ===== the reference reads texts ===== -/
theorem m_lt {s : zSt} {T : List Int} (h : mTx s T) (k : Nat) : zlt (k : Int) (zI s 252 5) (zI s 255 k) = ltr T k := by
  unfold zlt ltr
  rw [h.1]
  by_cases hk : k < T.length
  · rw [if_pos (by omega), if_pos hk, h.2 k hk]
  · rw [if_neg (by omega), if_neg hk]
theorem m_lt1 {s : zSt} {T : List Int} (h : mTx s T) (k : Nat) : zlt ((k : Int) + 1) (zI s 252 5) (zI s 255 ((k : Int) + 1)) = ltr T (k + 1) := m_lt h (k + 1)
theorem m_lt2 {s : zSt} {T : List Int} (h : mTx s T) (k : Nat) : zlt ((k : Int) + 2) (zI s 252 5) (zI s 255 ((k : Int) + 2)) = ltr T (k + 2) := m_lt h (k + 2)
def fM (s t : zSt) : Prop := frm (fun a => a = 252) s t ∧ ∀ j, j ≠ 19 → j ≠ 20 → zI t 252 j = zI s 252 j
theorem fM_w {s : zSt} {x y : Int} : fM s (zwI (zwI s 252 19 x) 252 20 y) := ⟨frm_I (frm_I frm_refl rfl) rfl, fun j h1 h2 => by rw [zI_nj h2, zI_nj h1]⟩
def mK (z : Int × Int × Nat) (s : zSt) (Q : Option Value ⊕ Nat → zSt → Prop) : Prop := (z.1 = -1 → ∀ t, fM s t → zI t 252 19 = z.2.1 → zI t 252 20 = (z.2.2 : Int) → Q (rI (-1)) t) ∧ (z.1 ≠ -1 → Q (rI z.1) s)
theorem mK_ok {z : Int × Int × Nat} {s : zSt} {Q : Option Value ⊕ Nat → zSt → Prop} (h : mK z s Q) {ty v : Int} {to_ : Nat} (hz : z = (-1, ty, to_)) (hv : v = (to_ : Int)) : Q (rI (-1)) (zwI (zwI s 252 19 ty) 252 20 v) := by
  subst hz
  exact h.1 rfl _ fM_w (by rw [zI_nj (by omega), zI_eq]) (by rw [zI_eq]; exact hv)
theorem mK_no {z : Int × Int × Nat} {s : zSt} {Q : Option Value ⊕ Nat → zSt → Prop} (h : mK z s Q) {y : Int} (hz : z = (y, 0, 0)) (hy : 0 ≤ y) : Q (rI y) s := by
  subst hz
  exact h.2 (show y ≠ -1 by omega)
section RDM
variable {S : Option (Nat × (Nat → Int32))} {Q : Option Value ⊕ Nat → zSt → Prop} {s : zSt} {D : Int → Int} {T : List Int}
theorem M_rt_283 {k : Nat} {d u due : Int} (hT : okTx T) (ht : mTx s T) (hk : k ≤ 200) (hd : d = ltr T (k + 1)) (hu : u = 0 ∨ u = 1) (hdue : (due = 54 ∧ d = 49) ∨ (due = 50 ∧ d = 51) ∨ (due = 52 ∧ d = 54 ∧ u = 0) ∨ (due = -1 ∧ d ≠ 56 ∧ d ≠ 49 ∧ d ≠ 51 ∧ ¬ (d = 54 ∧ u = 0))) (h : mK (rsP T k u) s Q) : wp S 226 283 [(0, rf 252), (1, iv k), (3, iv d), (4, iv u)] [iv due] s Q := by
  have hl := ht.1
  have hT8 := hT.1
  have e2 := m_lt2 ht k
  have hb := ltr_b hT (k + 2)
  have hb1 := ltr_b hT (k + 1)
  refine v_Model_readsType_283 ?_
  rw [e2]
  refine ⟨⟨by omega, by omega⟩, fun c1 => ⟨⟨by omega, by omega⟩, fun _ => ⟨by omega, by omega⟩, ⟨by omega, by omega⟩, fun c2 => ⟨⟨by omega, by omega⟩, fun c3 => ⟨fun c4 => ⟨⟨by omega, by omega⟩, ?_⟩, fun c4 => ⟨⟨by omega, by omega⟩, ⟨by omega, by omega⟩, ?_⟩⟩, fun c3 => ⟨⟨by omega, by omega⟩, ⟨by omega, by omega⟩, ?_⟩⟩, fun c2 => ?_⟩, fun c1 => ?_⟩
  · exact mK_ok h (to_ := k + 3) (by unfold rsP; rw [if_neg (by omega), if_neg (by omega), if_neg (by omega), if_pos (show ltr T (k + 1) = 54 ∧ u = 0 by omega), if_pos (by omega)]) (by omega)
  · exact mK_ok h (to_ := k + 3) (by unfold rsP; rw [if_neg (by omega), if_neg (by omega), if_pos (by omega), if_pos (by omega)]) (by omega)
  · exact mK_ok h (to_ := k + 3) (by unfold rsP; rw [if_neg (by omega), if_pos (by omega), if_pos (by omega)]) (by omega)
  · refine mK_no h (y := (k : Int) + 2) ?_ (by omega)
    unfold rsP
    rcases hdue with hh | hh | hh | hh
    · rw [if_neg (by omega), if_pos (by omega), if_neg (by omega)]
    · rw [if_neg (by omega), if_neg (by omega), if_pos (by omega), if_neg (by omega)]
    · rw [if_neg (by omega), if_neg (by omega), if_neg (by omega), if_pos (show ltr T (k + 1) = 54 ∧ u = 0 by omega), if_neg (by omega)]
    · omega
  · refine mK_no h (y := (k : Int) + 1) ?_ (by omega)
    unfold rsP
    rw [if_neg (by omega), if_neg (by omega), if_neg (by omega), if_neg (show ¬ (ltr T (k + 1) = 54 ∧ u = 0) by omega)]
theorem M_rt_225 {k : Nat} {c u : Int} (hT : okTx T) (ht : mTx s T) (hk : k ≤ 200) (hcu : (c = 105 ∧ u = 0) ∨ (c = 117 ∧ u = 1)) (h : mK (rsP T k u) s Q) : wp S 226 225 [(0, rf 252), (1, iv k), (2, iv c), (3, iv (ltr T (k + 1)))] [iv u] s Q := by
  have hb1 := ltr_b hT (k + 1)
  have hu : u = 0 ∨ u = 1 := by omega
  refine v_Model_readsType_225 ⟨⟨by omega, by omega⟩, fun c1 => ⟨fun c2 => ⟨fun c3 => ⟨fun c4 => ?_, fun c4 => ⟨⟨by omega, by omega⟩, fun c5 => ?_, fun c5 => ?_⟩⟩, fun c3 => ?_⟩, fun c2 => ?_⟩, fun c1 => ⟨⟨by omega, by omega⟩, ⟨by omega, by omega⟩, ?_⟩⟩
  · exact M_rt_283 hT ht hk rfl hu (.inr (.inr (.inr ⟨rfl, c1, c2, c3, by omega⟩))) h
  · exact M_rt_283 hT ht hk rfl hu (.inr (.inr (.inr ⟨rfl, c1, c2, c3, by omega⟩))) h
  · exact M_rt_283 hT ht hk rfl hu (.inr (.inr (.inl ⟨rfl, c4, by omega⟩))) h
  · exact M_rt_283 hT ht hk rfl hu (.inr (.inl ⟨rfl, c3⟩)) h
  · exact M_rt_283 hT ht hk rfl hu (.inl ⟨rfl, c2⟩) h
  · exact mK_ok h (to_ := k + 2) (by unfold rsP; rw [if_pos c1]) (by omega)
theorem M_rtype {k : Nat} (hA : okA D) (hm : mD s D) (hT : okTx T) (ht : mTx s T) (hk : k ≤ 200) (h : mK (rtP D T k) s Q) : wp S 226 0 [(0, rf 252), (1, iv k)] [] s Q := by
  have hl := ht.1
  have hT8 := hT.1
  have hD0 := hA.1.1
  have e0 := m_lt ht k
  have e1 := m_lt1 ht k
  have e2 := m_lt2 ht k
  have hb := ltr_b hT k
  have hb1 := ltr_b hT (k + 1)
  have hb2 := ltr_b hT (k + 2)
  have en : zI s 253 0 = D 0 := hm 0 (by omega) (by omega)
  have h74 : ltr T k = 35 → ∀ v : Int, v = 0 ∨ v = 1 → (v = 1 ↔ ((48 ≤ ltr T (k + 1) ∧ ltr T (k + 1) ≤ 57) ∧ ltr T (k + 1) - 48 < D 0 ∧ 0 < dN D (ltr T (k + 1) - 48))) → wp S 226 74 [(0, rf 252), (1, iv k), (3, iv (ltr T (k + 1)))] [iv v] s Q := fun h35 v hv hiff => by
    have e : rtP D T k = rrP D T k := by unfold rtP; rw [if_neg (by omega), if_neg (by omega), if_neg (by omega), if_pos h35]
    rw [e] at h
    refine v_Model_readsType_74 ⟨⟨by omega, by omega⟩, fun hz => ?_, fun hz => ⟨⟨by omega, by omega⟩, ⟨by omega, by omega⟩, ?_⟩⟩
    · exact mK_no h (y := (k : Int) + 1) (by unfold rrP; rw [if_neg (fun hh => by have := hiff.mpr hh; omega)]) (by omega)
    · have hh := hiff.mp (by omega)
      refine mK_ok h (to_ := k + 2) ?_ (by omega)
      unfold rrP
      rw [if_pos hh, show 100 + ltr T (k + 1) - 48 = 100 + (ltr T (k + 1) - 48) by omega]
  refine v_Model_readsType_0 ?_
  rw [e0, e1, e2, en]
  refine ⟨⟨by omega, by omega⟩, fun _ => ⟨by omega, by omega⟩, ⟨by omega, by omega⟩, fun _ => ⟨by omega, by omega⟩, ⟨by omega, by omega⟩, fun c1 => ⟨fun c2 => ⟨fun c3 => ⟨fun c4 => ⟨fun c5 => ?_, fun c5 => ?_⟩, fun c4 => ⟨fun c5 => ⟨fun c6 => ?_, fun c6 => ?_⟩, fun c5 => ?_⟩⟩, fun c3 => ⟨⟨by omega, by omega⟩, fun c4 => ⟨⟨by omega, by omega⟩, fun _ => ⟨by omega, by omega⟩, ⟨by omega, by omega⟩, fun c5 => ⟨⟨by omega, by omega⟩, fun c6 => ⟨⟨by omega, by omega⟩, ⟨by omega, by omega⟩, ?_⟩, fun c6 => ?_⟩, fun c5 => ⟨⟨by omega, by omega⟩, ?_⟩⟩, fun c4 => ?_⟩⟩, fun c2 => ⟨⟨by omega, by omega⟩, fun c3 => ?_, fun c3 => ⟨⟨by omega, by omega⟩, ⟨by omega, by omega⟩, fun c4 => ?_, fun c4 => ⟨⟨by omega, by omega⟩, ?_⟩⟩⟩⟩, fun c1 => ?_⟩
  · have e : rtP D T k = rsP T k 0 := by unfold rtP; rw [if_neg c1, if_pos c4]
    rw [e] at h
    exact M_rt_225 hT ht hk (.inl ⟨c4, rfl⟩) h
  · omega
  · omega
  · have e : rtP D T k = rsP T k 1 := by unfold rtP; rw [if_neg c1, if_neg c4, if_pos c5]
    rw [e] at h
    exact M_rt_225 hT ht hk (.inr ⟨c5, rfl⟩) h
  · exact mK_no h (y := (k : Int)) (by unfold rtP; rw [if_neg c1, if_neg c4, if_neg c5, if_neg c2, if_neg c3]) (by omega)
  · have e : rtP D T k = rwP T k := by unfold rtP; rw [if_neg c1, if_neg (by omega), if_neg (by omega), if_neg c2, if_pos c3]
    rw [e] at h
    refine mK_ok h (to_ := k + 3) ?_ (by omega)
    unfold rwP
    rw [if_pos c4, if_pos c5, if_pos (by omega), show 10 * (ltr T (k + 1) - 48) + ltr T (k + 2) - 48 = 10 * (ltr T (k + 1) - 48) + (ltr T (k + 2) - 48) by omega]
  · have e : rtP D T k = rwP T k := by unfold rtP; rw [if_neg c1, if_neg (by omega), if_neg (by omega), if_neg c2, if_pos c3]
    rw [e] at h
    exact mK_no h (y := (k : Int) + 2) (by unfold rwP; rw [if_pos c4, if_pos c5, if_neg (by omega)]) (by omega)
  · have e : rtP D T k = rwP T k := by unfold rtP; rw [if_neg c1, if_neg (by omega), if_neg (by omega), if_neg c2, if_pos c3]
    rw [e] at h
    refine mK_ok h (to_ := k + 2) ?_ (by omega)
    unfold rwP
    rw [if_pos c4, if_neg c5, show 20 + ltr T (k + 1) - 48 = 20 + (ltr T (k + 1) - 48) by omega]
  · have e : rtP D T k = rwP T k := by unfold rtP; rw [if_neg c1, if_neg (by omega), if_neg (by omega), if_neg c2, if_pos c3]
    rw [e] at h
    exact mK_no h (y := (k : Int) + 1) (by unfold rwP; rw [if_neg c4]) (by omega)
  · exact h74 c2 0 (.inl rfl) ⟨fun hh => by omega, fun hh => absurd hh.1 c3⟩
  · exact h74 c2 0 (.inl rfl) ⟨fun hh => by omega, fun hh => absurd ⟨by omega, by omega⟩ c4⟩
  · have em : zI s 253 (1 + 26 * (ltr T (k + 1) - 48) + 1) = dN D (ltr T (k + 1) - 48) := hm _ (by omega) (by omega)
    rw [em]
    refine ⟨fun c5 => h74 c2 0 (.inl rfl) ⟨fun hh => by omega, fun hh => by omega⟩, fun c5 => h74 c2 1 (.inr rfl) ⟨fun _ => ⟨c3, by omega, c5⟩, fun _ => rfl⟩⟩
  · exact mK_ok h (to_ := k + 1) (by unfold rtP; rw [if_pos c1]) (by omega)
end RDM
