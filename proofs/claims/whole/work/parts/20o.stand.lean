/-! ===== a new table stands: the reference ===== -/
def putT (D : Int → Int) (t r nr ly od bs by_ : Int) : Int → Int := upD (upD (upD (upD (upD (upD D (157 + 6 * t) r) (157 + 6 * t + 1) nr) (157 + 6 * t + 2) ly) (157 + 6 * t + 3) od) (157 + 6 * t + 4) bs) (157 + 6 * t + 5) by_
def newTD (D : Int → Int) (t r nr ly od bs : Int) : Int → Int := clrD (putT D t r nr ly od bs (bFor (shp D r) nr ly)) bs (bFor (shp D r) nr ly).toNat
section OPS18
variable {S : Option (Nat × (Nat → Int32))} {Q : Option Value ⊕ Nat → zSt → Prop} {s : zSt} {D : Int → Int} {H : List (Int → Int)} {T : List Int}
theorem wI_up {D : Int → Int} {j v : Int} {N : Int} (hm : ∀ i, 0 ≤ i → i < N → zI s 253 i = D i) : ∀ i, 0 ≤ i → i < N → zI (zwI s 253 j v) 253 i = upD D j v i := fun i q0 q1 => by
  unfold upD
  rw [zI_wI]
  by_cases h : i = j
  · rw [if_pos ⟨rfl, h⟩, if_pos h]
  · rw [if_neg (fun hq => h hq.2), if_neg h]; exact hm i q0 q1
theorem M_stands {t r nr ly od bs : Int} (hA : okA D) (h : mRel s D H T) (hly : mLay s D (D 0)) (ht : 0 ≤ t ∧ t < 3) (hr : hasRc D r) (h1 : 1 ≤ nr ∧ nr ≤ 12) (h2 : 0 ≤ ly ∧ ly ≤ 8) (h3 : 0 ≤ od ∧ od ≤ 1) (h4 : 0 ≤ bs) (h6 : 0 ≤ bFor (shp D r) nr ly) (h7 : bs + bFor (shp D r) nr ly ≤ 1024)
    (k1 : ∀ u, frm (fun x => x = 253) s u → mRel u (newTD D t r nr ly od bs) H T → Q rU u) : wp S 237 0 [(0, rf 252), (1, iv t), (2, iv r), (3, iv nr), (4, iv ly), (5, iv od), (6, iv bs)] [] s Q := by
  have hD0 := hA.1.1
  have hr0 := hr.1
  have hr1 := hr.2
  refine v_Model_stands_0 ⟨⟨by omega, by omega⟩, ⟨by omega, by omega⟩, ⟨by omega, by omega⟩, ⟨by omega, by omega⟩, ⟨by omega, by omega⟩, ⟨by omega, by omega⟩, ⟨by omega, by omega⟩, ⟨by omega, by omega⟩, ⟨by omega, by omega⟩, ⟨by omega, by omega⟩, ?_⟩
  have hf5 : frm (fun x => x = 253) s (zwI (zwI (zwI (zwI (zwI s 253 (157 + 6 * t) r) 253 (157 + 6 * t + 1) nr) 253 (157 + 6 * t + 2) ly) 253 (157 + 6 * t + 3) od) 253 (157 + 6 * t + 4) bs) := frm_I (frm_I (frm_I (frm_I (frm_I frm_refl rfl) rfl) rfl) rfl) rfl
  have hlw := mLay_fr hly hf5 fun a a0 a1 => by omega
  refine C_bytesFor ⟨hr0, by omega⟩ (okG_shp hA.1 hr0 hr1) h2 h1 (hlw r hr0 hr1) (zkI_I ⟨by omega, by omega⟩ ⟨⟨by omega, by omega⟩, ?_⟩)
  have hf6 : frm (fun x => x = 253) s (zwI (zwI (zwI (zwI (zwI (zwI s 253 (157 + 6 * t) r) 253 (157 + 6 * t + 1) nr) 253 (157 + 6 * t + 2) ly) 253 (157 + 6 * t + 3) od) 253 (157 + 6 * t + 4) bs) 253 (157 + 6 * t + 5) (bFor (shp D r) nr ly)) := frm_I hf5 rfl
  have hm : mRel (zwI (zwI (zwI (zwI (zwI (zwI s 253 (157 + 6 * t) r) 253 (157 + 6 * t + 1) nr) 253 (157 + 6 * t + 2) ly) 253 (157 + 6 * t + 3) od) 253 (157 + 6 * t + 4) bs) 253 (157 + 6 * t + 5) (bFor (shp D r) nr ly)) (putT D t r nr ly od bs (bFor (shp D r) nr ly)) H T :=
    mRel_D h hf6 (wI_up (wI_up (wI_up (wI_up (wI_up (wI_up h.1))))))
  refine M_stands_81 (m := (bFor (shp D r) nr ly).toNat) h4 (by omega) ht (bFor (shp D r) nr ly).toNat 0 _ (by omega) hm (by rw [zI_eq]; omega) fun u hfu hmu => k1 u (frm_trans hf6 hfu) hmu
end OPS18
