/-! ===== the machine does what the reader reads: fields, rows, new cells ===== -/
theorem xclassT {c : Nat} (h : c < 11) : vwCl[c]? = some (xclsN c, xfd c, (xfk c).length) := by
  match c, h with
  | 0, _ => rfl
  | 1, _ => rfl
  | 2, _ => rfl
  | 3, _ => rfl
  | 4, _ => rfl
  | 5, _ => rfl
  | 6, _ => rfl
  | 7, _ => rfl
  | 8, _ => rfl
  | 9, _ => rfl
  | 10, _ => rfl
theorem xlays_in {c : Nat} (h : c < 11) : ∀ w ∈ u_ws (xclsN c) (xfd c) (xfk c).length, w ∈ kxT := by
  have key : ∀ {C : String} {T : u_T} {N : Nat}, (∀ w ∈ u_ws C T N, w ∈ lw_tbl) → ∀ w ∈ u_ws C T N, w ∈ kxT := fun {C T N} hin w hw => by
    refine List.mem_filter.mpr ⟨hin w hw, ?_⟩
    obtain ⟨k, -, rfl⟩ := List.mem_map.mp hw
    unfold u_lay
    split <;> rfl
  match c, h with
  | 0, _ => exact key inX0
  | 1, _ => exact key inX1
  | 2, _ => exact key inX2
  | 3, _ => exact key inX3
  | 4, _ => exact key inX4
  | 5, _ => exact key inX5
  | 6, _ => exact key inX6
  | 7, _ => exact key inX7
  | 8, _ => exact key inX8
  | 9, _ => exact key inX9
  | 10, _ => exact key inX10
theorem xnm_all : ∀ c, c < 11 → ∀ a, a < (xfk c).length → ∀ b, b < (xfk c).length → a ≠ b → (xfd c a).2.1 ≠ (xfd c b).2.1 := by decide +kernel
def xdflt (c k : Nat) : Value := match (xfk c)[k]? with | some 2 => .long 0 | some 3 => .null | _ => .int 0
theorem xty_all : ∀ c, c < 11 → ∀ k, k < (xfk c).length → parseFieldDescriptor (xfd c k).2.2.1 = some (xfty c k) := by decide +kernel
theorem xdf_all : ∀ c, c < 11 → ∀ k, k < (xfk c).length → defaultValue (xfty c k) = xdflt c k := by decide +kernel
theorem xfk_all : ∀ c, c < 11 → ∀ k, k < (xfk c).length → (xfk c)[k]? = some 0 ∨ (xfk c)[k]? = some 1 ∨ (xfk c)[k]? = some 2 ∨ (xfk c)[k]? = some 3 := by decide +kernel
theorem xW_push {dA : Nat → ClassId} {ad : Nat → Nat} {M M' : xM} (h2 : 2 ≤ mNx M) (hn : mNx M' = mNx M + 1) (ho : ∀ b, b < mNx M → xwE dA ad M' b = xwE dA ad M b) : xW dA ad M' = xW dA ad M ++ [(ad (mNx M), xwE dA ad M' (mNx M))] := by
  unfold xW
  rw [hn, show mNx M + 1 - 2 = (mNx M - 2) + 1 by omega, List.range_succ, List.map_append]
  congr 1
  · refine List.map_congr_left fun j hj => ?_
    have := List.mem_range.mp hj
    rw [ho _ (by omega)]
  · show [(ad (mNx M - 2 + 2), xwE dA ad M' (mNx M - 2 + 2))] = _
    rw [show mNx M - 2 + 2 = mNx M by omega]
theorem xwE_new {dA : Nat → ClassId} {ad : Nat → Nat} {M : xM} {sh : xSh} {n b : Nat} (hb : b ≠ mNx M) : xwE dA ad (xnew M sh n) b = xwE dA ad M b := by
  have h1 : mSh (xnew M sh n) b = mSh M b := by show up1 (mSh M) (mNx M) sh b = _; unfold up1; rw [if_neg hb]
  have h2 : mI (xnew M sh n) b = mI M b := by show up1 (mI M) (mNx M) _ b = _; unfold up1; rw [if_neg hb]
  have h3 : mL (xnew M sh n) b = mL M b := by show up1 (mL M) (mNx M) _ b = _; unfold up1; rw [if_neg hb]
  have h4 : mR (xnew M sh n) b = mR M b := by show up1 (mR M) (mNx M) _ b = _; unfold up1; rw [if_neg hb]
  unfold xwE xfs xfld
  rw [h1, h2, h3, h4]
theorem xnewSh {M : xM} {sh : xSh} {n : Nat} : mSh (xnew M sh n) (mNx M) = sh := by show up1 (mSh M) (mNx M) sh _ = _; unfold up1; rw [if_pos rfl]
theorem xnewI {M : xM} {sh : xSh} {n : Nat} : mI (xnew M sh n) (mNx M) = fun _ => 0 := by show up1 (mI M) (mNx M) _ _ = _; unfold up1; rw [if_pos rfl]
theorem xnewL {M : xM} {sh : xSh} {n : Nat} : mL (xnew M sh n) (mNx M) = fun _ => 0 := by show up1 (mL M) (mNx M) _ _ = _; unfold up1; rw [if_pos rfl]
theorem xnewR {M : xM} {sh : xSh} {n : Nat} : mR (xnew M sh n) (mNx M) = fun _ => none := by show up1 (mR M) (mNx M) _ _ = _; unfold up1; rw [if_pos rfl]
/-- a new cell is known -/
theorem xRel_push {D : va_G} {dA : Nat → ClassId} {ad : Nat → Nat} {A : Nat → Prop} {M : xM} {H H1 : Heap} {sh : xSh} {n : Nat} (had : xAd ad A) (hR : xRel D dA ad M H) (hse : mSe M = false) (hsh : sh.1 ∈ xkinds ∨ (4 ≤ sh.1 ∧ sh.1 < 15)) (z1 : H1.size = H.size + 1) (o1 : ∀ q : Nat, q < H.size → H1[q]? = H[q]?) (hat : va_at D vwCl (ad (mNx M), xwE dA ad (xnew M sh n) (mNx M)) H1) : xRel D dA ad (xnew M sh n) H1 := by
  obtain ⟨hP, h2, hsz, hk⟩ := hR
  refine ⟨?_, by show 2 ≤ mNx M + 1; omega, fun _ => ?_, fun a ha1 ha2 => ?_⟩
  · rw [xW_push (M' := xnew M sh n) h2 rfl (fun b hb => xwE_new (Nat.ne_of_lt hb))]
    refine (hP.kept fun k x hx => o1 x.1 ((hP k x hx).lt)).app (fun k x hx => ?_)
    have hz : k < 1 := (List.getElem?_eq_some_iff.mp hx).1
    rw [show k = 0 by omega] at hx
    cases hx
    exact hat
  · rw [z1, hsz hse]
    exact (had.2.2.2.2 _ h2).symm
  · by_cases hx : a = mNx M
    · rw [hx, xnewSh]; exact hsh
    · have h1 : mSh (xnew M sh n) a = mSh M a := by show up1 (mSh M) (mNx M) sh a = _; unfold up1; rw [if_neg hx]
      rw [h1]
      exact hk a ha1 (by have : a < mNx M + 1 := ha2; omega)
/-- a cell is written -/
theorem xRel_set {D : va_G} {dA : Nat → ClassId} {ad : Nat → Nat} {M M' : xM} {H1 : Heap} {a : Nat} {e : va_E} (h2 : 2 ≤ a) (hs : M'.1 = M.1) (hsh : mSh M' = mSh M) (he : xwE dA ad M' a = e) (ho : ∀ b, b ≠ a → xwE dA ad M' b = xwE dA ad M b) (hP : va_P D vwCl ((xW dA ad M).set (a - 2) (ad a, e)) H1) (h3 : 2 ≤ mNx M) (hz : mSe M = false → H1.size = ad (mNx M)) (hk : ∀ a, 2 ≤ a → a < mNx M → ((mSh M a).1 ∈ xkinds ∨ (4 ≤ (mSh M a).1 ∧ (mSh M a).1 < 15))) : xRel D dA ad M' H1 := by
  have hn : mNx M' = mNx M := by unfold mNx; rw [hs]
  have hse : mSe M' = mSe M := by unfold mSe; rw [hs]
  refine ⟨?_, by rw [hn]; exact h3, by rw [hn, hse]; exact hz, by rw [hn, hsh]; exact hk⟩
  rw [← xW_set h2 hn he ho]
  exact hP
theorem xwE_eq {dA : Nat → ClassId} {ad : Nat → Nat} {M M' : xM} {b : Nat} (h1 : mSh M' b = mSh M b) (h2 : mI M' b = mI M b) (h3 : mL M' b = mL M b) (h4 : mR M' b = mR M b) : xwE dA ad M' b = xwE dA ad M b := by
  unfold xwE xfs xfld
  rw [h1, h2, h3, h4]
theorem up2_ne {α : Type} {f : Nat → Nat → α} {i j b : Nat} {v : α} (h : b ≠ i) : up2 f i j v b = f b := by funext k; unfold up2; rw [if_neg h]
theorem up2_eq {α : Type} {f : Nat → Nat → α} {i j : Nat} {v : α} : up2 f i j v i = fun k => if k = j then v else f i k := by funext k; unfold up2; rw [if_pos rfl]
theorem up1_ne {α : Type} {f : Nat → α} {i b : Nat} {v : α} (h : b ≠ i) : up1 f i v b = f b := by unfold up1; rw [if_neg h]
theorem up1_eq {α : Type} {f : Nat → α} {i : Nat} {v : α} : up1 f i v i = v := by unfold up1; rw [if_pos rfl]
section XN
variable {p : Program} {l : Launch} {e : Env} {R : Room} {s : State} {m : MethodId} {args : Array Value} {below : List Frame} {meth : Method} {c : Code} {H : Heap} {locs : List Loc} {cells slots : Nat} {Q : State → Prop}
variable {cc : ByteArray} {pc : Nat} {ls : Array Slot} {rest : List Value} {D : va_G} {A : Nat → Prop} {H0 : Heap} {dA : Nat → ClassId} {ad : Nat → Nat} {M : xM}
theorem xS_push {H1 : Heap} (hS : va_S A H0 H locs) (z1 : H1.size = H.size + 1) (o1 : ∀ q : Nat, q < H.size → H1[q]? = H[q]?) : va_S A H0 H1 locs := ⟨Nat.le_trans hS.1 (by omega), fun x h1 h2 => (o1 x (Nat.lt_of_lt_of_le h1 hS.1)).trans (hS.2.1 x h1 h2), hS.2.2⟩
theorem x_newa (hexec : p.tables.exec = Jvm.exec) (hb : c.code = cc) {atype : ArrayType} (harr : (Cond.arrayClass (newarray.typeOf atype)).before args s = true) (had : xAd ad A) (hR : xRel D dA ad M H) (hse : mSe M = false) (hS : va_S A H0 H locs) {n : Int32} {N' k : Nat} (hk : k ∈ xkinds) (hRA : ∀ cA, s.vm.findClass ("[" ++ (newarray.typeOf atype).toString) = some cA → cA = dA k)
    (he : ∀ H1 : Heap, H1[ad (mNx M)]? = some (arrV (dA k) N' (fun _ => defaultValue (newarray.typeOf atype))) → va_at D vwCl (ad (mNx M), xwE dA ad (xnew M (k, N') N') (mNx M)) H1)
    (hn : ¬ n < 0) (hN : n.toNatClampNeg = N') (hbytes : N' * componentBytes (newarray.typeOf atype) ≤ 536870912) (hcells : cells + 1 ≤ R.cells) (hslots : slots + N' ≤ R.slots) (hdg : decode cc pc = .ok (.newarray atype, 2))
    (kk : ∀ (H1 : Heap), xRel D dA ad (xnew M (k, N') N') H1 → va_S A H0 H1 locs → W p l e R s m args below meth c H1 locs (cells + 1) (slots + N') Q (F0 m (pc + 2) ls (.ref (ad (mNx M)) :: rest))) : W p l e R s m args below meth c H locs cells slots Q (F0 m pc ls (.int n :: rest)) := by
  have hh : H.size = ad (mNx M) := hR.2.2.1 hse
  refine va_newaK hexec hb harr rfl hdg rfl hn hN hbytes hcells hslots hh fun H1 cA e1 z1 o1 hAr hNm => ?_
  have z1' : H1.size = H.size + 1 := by rw [z1, hh]
  have o1' : ∀ q : Nat, q < H.size → H1[q]? = H[q]? := fun q hq => o1 q (by rw [← hh]; exact hq)
  refine kk H1 (xRel_push had hR hse (Or.inl hk) z1' o1' ?_) (xS_push hS z1' o1')
  exact he H1 (by rw [← hRA cA hNm]; exact e1)
theorem x_newq (hexec : p.tables.exec = Jvm.exec) (hb : c.code = cc) {own C : String} {index : Nat} (hown : s.vm.findClass own = some m.cls) (hclink : (Cond.classLink own index C).before args s = true) (hover : va_AO C s) (had : xAd ad A) (hR : xRel D dA ad M H) (hse : mSe M = false) (hS : va_S A H0 H locs) {n : Int32} {k : Nat} (hk : k ∈ xkinds) (h15 : 15 ≤ k) (hRA : ∀ cA, s.vm.findClass ("[" ++ (FieldType.object C).toString) = some cA → cA = dA k)
    (hn : ¬ n < 0) (hbytes : n.toNatClampNeg * 4 ≤ 536870912) (hcells : cells + 1 ≤ R.cells) (hslots : slots + n.toNatClampNeg ≤ R.slots) (hdg : decode cc pc = .ok (.anewarray index, 3))
    (kk : ∀ (H1 : Heap), xRel D dA ad (xnew M (k, n.toNatClampNeg) n.toNatClampNeg) H1 → va_S A H0 H1 locs → W p l e R s m args below meth c H1 locs (cells + 1) (slots + n.toNatClampNeg) Q (F0 m (pc + 3) ls (.ref (ad (mNx M)) :: rest))) : W p l e R s m args below meth c H locs cells slots Q (F0 m pc ls (.int n :: rest)) := by
  have hh : H.size = ad (mNx M) := hR.2.2.1 hse
  refine W.anew hexec hb hown hclink (va_AO.use hover) rfl hdg rfl hn hbytes hcells hslots fun cA kA comp f1 f2 f3 f4 => ?_
  generalize hH1 : H.push ({ cls := cA, slots := Array.replicate n.toNatClampNeg .null, vm := .none } : Cell) = H1
  have z1 : H1.size = H.size + 1 := by rw [← hH1, Array.size_push]
  have e1 : H1[H.size]? = some (arrV cA n.toNatClampNeg (fun _ => .null)) := by rw [← hH1, Array.getElem?_push_size, ← arrV_new]
  have o1 : ∀ q : Nat, q < H.size → H1[q]? = H[q]? := fun q hq => by rw [← hH1, Array.getElem?_push, if_neg (Nat.ne_of_lt hq)]
  have key := kk H1 (xRel_push (n := n.toNatClampNeg) had hR hse (sh := (k, n.toNatClampNeg)) (Or.inl hk) z1 o1 ?_) (xS_push hS z1 o1)
  · rw [← hh] at key
    exact key
  · unfold xwE
    rw [xnewSh]
    have hk4 : k ≠ 1 ∧ k ≠ 2 ∧ k ≠ 3 := ⟨by omega, by omega, by omega⟩
    dsimp only
    rw [if_neg hk4.1, if_neg hk4.2.1, if_neg hk4.2.2, if_pos h15, xnewR]
    show H1[ad (mNx M)]? = some (vp_cell _ _)
    rw [vp_cell_q, ← hRA cA f1, ← hh]
    exact e1
theorem x_new (hexec : p.tables.exec = Jvm.exec) (hb : c.code = cc) {own : String} {index ci : Nat} (hc : ci < 11) {Ts : List Cond} (hts : ∀ w ∈ Ts, w.before args s = true) (hin : ∀ w ∈ u_ws (xclsN ci) (xfd ci) (xfk ci).length, w ∈ Ts) (hown : s.vm.findClass own = some m.cls) (hcl : (Cond.classLink own index (xclsN ci)).before args s = true) (hinst : (Cond.instantiable (xclsN ci) (xfk ci).length).before args s = true) (hini : (Cond.initialized (xclsN ci)).before args s = true)
    (hK : va_K D vwCl (xtys dA) s) (had : xAd ad A) (hR : xRel D dA ad M H) (hse : mSe M = false) (hS : va_S A H0 H locs) (hcells : cells + 1 ≤ R.cells) (hslots : slots + (xfk ci).length ≤ R.slots) (hdg : decode cc pc = .ok (.new index, 3))
    (kk : ∀ (H1 : Heap), xRel D dA ad (xnew M (4 + ci, 0) (xfk ci).length) H1 → va_S A H0 H1 locs → W p l e R s m args below meth c H1 locs (cells + 1) (slots + (xfk ci).length) Q (F0 m (pc + 3) ls (.ref (ad (mNx M)) :: rest))) : W p l e R s m args below meth c H locs cells slots Q (F0 m pc ls rest) := by
  have hKn := hK.1 ci _ (xclassT hc)
  have hh : H.size = ad (mNx M) := hR.2.2.1 hse
  refine W.newcK hexec hb hown hcl hinst hini rfl hdg hcells hslots hKn.2.1 hh fun H1 kC hkC e1 z1 o1 => ?_
  have z1' : H1.size = H.size + 1 := by rw [z1, hh]
  have o1' : ∀ q : Nat, q < H.size → H1[q]? = H[q]? := fun q hq => o1 q (by rw [← hh]; exact hq)
  refine kk H1 (xRel_push had hR hse (Or.inr ⟨by show 4 ≤ 4 + ci; omega, by show 4 + ci < 15; omega⟩) z1' o1' ?_) (xS_push hS z1' o1')
  unfold xwE
  rw [xnewSh]
  dsimp only
  rw [if_neg (by omega), if_neg (by omega), if_neg (by omega), if_neg (by omega), Nat.add_sub_cancel_left]
  refine ⟨_, xclassT hc, (u_born (xfty ci) hts hin hKn hkC e1 (xty_all ci hc)).to fun k hk => ?_⟩
  rw [xdf_all ci hc k hk]
  have hv : ∀ v, xfld (xnew M (4 + ci, 0) (xfk ci).length) ci (mNx M) k = some v → vp_V (xfs ad (xnew M (4 + ci, 0) (xfk ci).length) ci (mNx M)) k = xL ad v := fun v hv => by
    unfold vp_V
    rw [List.getD_eq_getElem?_getD, xfs_at hv]
    rfl
  rcases xfk_all ci hc k hk with hkk | hkk | hkk | hkk
  · rw [hv (.int 0) (by unfold xfld; rw [hkk, xnewI]; rfl)]; unfold xdflt; rw [hkk]; rfl
  · rw [hv (.int 0) (by unfold xfld; rw [hkk, xnewI]; rfl)]; unfold xdflt; rw [hkk]; rfl
  · rw [hv (.long 0) (by unfold xfld; rw [hkk, xnewL]; rfl)]; unfold xdflt; rw [hkk]; rfl
  · rw [hv .null (by unfold xfld; rw [hkk, xnewR]; rfl)]; unfold xdflt; rw [hkk]; rfl
end XN
