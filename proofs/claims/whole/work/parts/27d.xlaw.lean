/-! ===== the state at the head of the loop, and the law to its end ===== -/
def sOf (M : xM) : zSt := (fun a j => (mI M a.toNat j.toNat).toInt, fun a j => mL M a.toNat j.toNat, (mNc M, mNs M))
theorem mk_sOf {M : xM} (h1 : mNx M = 276) (h2 : zSH = mSh M) (h3 : zRV = mR M) : mk (sOf M) = xsl 276 23 M := by
  have e1 : (fun a j : Nat => i32 (zI (sOf M) a j)) = mI M := funext fun a => funext fun j => i32_of (mI M a j)
  have e2 : (fun a j : Nat => zL (sOf M) a j) = mL M := rfl
  unfold xsl mk
  rw [if_pos ⟨rfl, rfl⟩, e1, e2, h2, h3, h1]
  rfl
theorem xrun_sl {S : Option (Nat × (Nat → Int32))} {n mi pc : Nat} {l : List (Nat × Value)} {st : List Value} {M M' : xM} (h : xsl mi pc M = xsl mi pc M') : xrun S n mi pc l st M = xrun S n mi pc l st M' := by
  cases n with
  | zero => rfl
  | succ n => unfold xrun; rw [h]
theorem sOf_Wf (M : xM) : Wf (sOf M) := fun a j => rng_to _
theorem z256 {f : Nat → Int32} {b : Nat} (h : (List.range 256).all (fun j => f (b + j) == 0) = true) {j : Nat} (hj : b ≤ j) (h2 : j < b + 256) : (f j).toInt = 0 := by
  simp only [List.all_eq_true, List.mem_range, beq_iff_eq] at h
  have := h (j - b) (by omega)
  rw [show b + (j - b) = j by omega] at this
  rw [this]
  rfl
theorem lw_init {M : xM} (hi : (mI M 3 0 == 0 && (mI M 31 0 == 0 && (mI M 32 0 == 0 && (mI M 33 0 == 0 && (mI M 2 3 == 0 && (mI M 2 4 == 0 && (mI M 2 7 == -1 && (mI M 36 0 == 0 && (mI M 252 2 == 0 && (mI M 252 5 == 0 && ((List.range 157).all (fun j => mI M 253 j == 0) && (mI M 253 157 == -1 && (mI M 253 163 == -1 && (mI M 253 169 == -1)))))))))))))) = true)
    (n0 : (List.range 256).all (fun j => mI M 253 (175 + j) == 0) = true) (n1 : (List.range 256).all (fun j => mI M 253 (431 + j) == 0) = true) (n2 : (List.range 256).all (fun j => mI M 253 (687 + j) == 0) = true) (n3 : (List.range 256).all (fun j => mI M 253 (943 + j) == 0) = true)
    (m0 : (List.range 256).all (fun j => mI M 6 (0 + j) == 0) = true) (m1 : (List.range 256).all (fun j => mI M 6 (256 + j) == 0) = true) (m2 : (List.range 256).all (fun j => mI M 6 (512 + j) == 0) = true) (m3 : (List.range 256).all (fun j => mI M 6 (768 + j) == 0) = true)
    (hc : mNc M = 274) (hs : mNs M ≤ 60000) : lwI 0 (sOf M) := by
  simp only [Bool.and_eq_true, beq_iff_eq, List.all_eq_true, List.mem_range] at hi
  obtain ⟨i1, i2, i3, i4, i5, i6, i7, i8, i9, i10, i11, i12, i13, i14⟩ := hi
  have tI : ∀ (x y : Int32), x = y → x.toInt = y.toInt := fun x y h => congrArg Int32.toInt h
  have hz : ∀ j : Nat, j < 1024 → (mI M 253 (175 + j)).toInt = 0 := fun j hj => by
    rcases Nat.lt_or_ge j 256 with h | h
    · exact z256 n0 (by omega) (by omega)
    · rcases Nat.lt_or_ge j 512 with h | h
      · exact z256 n1 (by omega) (by omega)
      · rcases Nat.lt_or_ge j 768 with h | h
        · exact z256 n2 (by omega) (by omega)
        · exact z256 n3 (by omega) (by omega)
  have hm : ∀ j : Nat, j < 1024 → (mI M 6 j).toInt = 0 := fun j hj => by
    rcases Nat.lt_or_ge j 256 with h | h
    · exact z256 m0 (by omega) (by omega)
    · rcases Nat.lt_or_ge j 512 with h | h
      · exact z256 m1 (by omega) (by omega)
      · rcases Nat.lt_or_ge j 768 with h | h
        · exact z256 m2 (by omega) (by omega)
        · exact z256 m3 (by omega) (by omega)
  obtain ⟨D, hDe⟩ : ∃ D : Int → Int, D = fun j => zI (sOf M) 253 j := ⟨_, rfl⟩
  have hD : ∀ j, D j = (mI M 253 j.toNat).toInt := fun j => by rw [hDe]; rfl
  have d0 : D 0 = 0 := (hD 0).trans (tI _ _ (i11 0 (by omega)))
  have dt : ∀ t, 0 ≤ t → t < 3 → tRc D t = -1 := fun t t0 t1 => by
    rcases (by omega : t = 0 ∨ t = 1 ∨ t = 2) with rfl | rfl | rfl
    · exact (hD 157).trans (tI _ _ i12)
    · exact (hD 163).trans (tI _ _ i13)
    · exact (hD 169).trans (tI _ _ i14)
  have db : ∀ j, 0 ≤ j → j < 1024 → D (175 + j) = 0 := fun j j0 j1 => by
    rw [hD, show (175 + j).toNat = 175 + j.toNat by omega]
    exact hz _ (by omega)
  have mb : ∀ j, 0 ≤ j → j < 1024 → zI (sOf M) 6 j = 0 := fun j j0 j1 => hm j.toNat (by omega)
  refine ⟨D, [], [], ⟨⟨⟨⟨by omega, by omega⟩, fun r r0 r1 => by omega⟩, fun j j0 j1 => by rw [db j j0 j1]; omega, fun t t0 t1 => .inl (dt t t0 t1), fun t u t0 t1 u0 u1 ne q1 => absurd (dt t t0 t1) q1⟩, fun r r0 r1 => by omega, ⟨Nat.zero_le _, fun i hi => absurd hi (Nat.not_lt_zero i)⟩, fun i hi => absurd hi (Nat.not_lt_zero i), okTx_nil⟩, ?_, ?_, by show mNc M ≤ _; omega, by show mNs M ≤ _; omega⟩
  · refine ⟨⟨(tI _ _ i1).trans d0.symm, fun r r0 r1 => by omega, fun t t0 t1 => .inl ⟨dt t t0 t1, ?_⟩, fun j j0 j1 => ?_⟩, fun r r0 r1 => by omega, ⟨?_, ⟨tI _ _ i6, Nat.zero_le _⟩, fun i hi => absurd hi (Nat.not_lt_zero i)⟩, ⟨tI _ _ i8, fun i hi => absurd hi (Nat.not_lt_zero i)⟩, .inl (tI _ _ i7)⟩
    · rcases (by omega : t = 0 ∨ t = 1 ∨ t = 2) with rfl | rfl | rfl
      · exact tI _ _ i2
      · exact tI _ _ i3
      · exact tI _ _ i4
    · have hb : zI (sOf M) (3 + 3) j = 0 := mb j j0 j1
      rw [db j j0 j1, hb]
      omega
    · have h23 : zI (sOf M) 2 3 = 0 := tI _ _ i5
      omega
  · exact ⟨fun j _ _ => by rw [hDe], ⟨⟨tI _ _ i9, Nat.zero_le _⟩, fun i hi => absurd hi (Nat.not_lt_zero i)⟩, ⟨tI _ _ i10, fun i hi => absurd hi (Nat.not_lt_zero i)⟩⟩
theorem nx_new (M : xM) (sh : xSh) (n : Nat) : mNx (xnew M sh n) = mNx M + 1 := rfl
theorem zMe_new : zMe = xnew (zRun zob) (2, 1) 1 := rfl
theorem zoa_is : zoa = xrun none 600 0 0 [(0, .ref 2)] [] (xnew xM0 (13, 0) 13) := rfl
theorem zob_is : zob = xrun none 600 176 0 [(0, .ref (mNx (zRun zoa)))] [] (xnew (zRun zoa) (14, 0) 30) := rfl
theorem lw_whole {L : Nat} {xs : Nat → Int32} {M : xM} (hL : L ≤ 3584) (h1 : mNx M = 276) (h2 : zSH = mSh M) (h3 : zRV = mR M) (hI : lwI 0 (sOf M)) : ∃ M' : xM, (∃ n, xrun (some (L, xs)) n 276 23 [(0, rf 0), (1, rf 2), (2, rf 252), (3, rf 275), (4, iv 0)] [] M = some (.inl (some (.int 1)), M')) ∧ mNc M' ≤ 601024 ∧ mNs M' ≤ 7293034 := by
  obtain ⟨n, o, t, r1, r2, r3, r4, r5⟩ := lw_loop (S := some (L, xs)) (xs := xs) rfl hL (L + 1) 0 (sOf M) (by omega) (by omega) hI (sOf_Wf M)
  subst r3
  refine ⟨mk t, ⟨n, ?_⟩, r4, r5⟩
  rw [xrun_sl (M' := mk (sOf M)) (by rw [xsl_mk, mk_sOf h1 h2 h3])]
  exact r1
theorem x_law (L : Nat) (xs : Nat → Int32) (hL : L ≤ 3584) : ∃ (n : Nat) (M : xM), xrun (some (L, xs)) n 276 0 [(0, .ref 0)] [] xM0 = some (.inl (some (.int 1)), M) ∧ mNc M ≤ 601024 ∧ mNs M ≤ 7293034 := by
  have hk := zMe_ok
  have hse := zo_se
  simp only [Bool.and_eq_true, beq_iff_eq, decide_eq_true_eq, Bool.not_eq_true'] at hk hse
  obtain ⟨k1, k2, k3, k4, k5, k6, -⟩ := hk
  have a1 := zoa_is.symm.trans (zRun_ok k1)
  have a2 := zob_is.symm.trans (zRun_ok k2)
  have hnx : mNx zMe = 276 := by rw [zMe_new, nx_new, k4]
  obtain ⟨M', hw, h4, h5⟩ := lw_whole (xs := xs) hL hnx zSH_eq zRV_eq (lw_init zMe_ints zMe_now0 zMe_now1 zMe_now2 zMe_now3 zMe_mem0 zMe_mem1 zMe_mem2 zMe_mem3 k5 k6)
  rw [zMe_new] at hw
  obtain ⟨n, hn⟩ := rw_head a1 a2 hse.1 hse.2 k3 k4 hw
  exact ⟨n, M', hn, h4, h5⟩
