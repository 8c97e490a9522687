/-! ===== fields, rows and new cells, an instruction each ===== -/
theorem xRA_prim {U : State} {c1 c2 : ClassId} {ty : FieldType} (h : va_RA U c2 ty) (hp : ∀ C, ty ≠ .object C) (h1 : U.vm.findClass ("[" ++ ty.toString) = some c1) : c1 = c2 := by
  cases ty with
  | object C => exact absurd rfl (hp C)
  | _ => exact Option.some.inj (h1.symm.trans h)
theorem xRA_obj {U : State} {c1 c2 : ClassId} {C : String} (h : va_RA U c2 (.object C)) (h1 : U.vm.findClass ("[" ++ (FieldType.object C).toString) = some c1) : c1 = c2 := by
  obtain ⟨kA, comp, -, -, -, h4⟩ := h
  exact Option.some.inj (h1.symm.trans h4)
theorem xin_toInt {j : Int32} (h : 0 ≤ j.toInt) : ¬ j < 0 := fun z => by
  have := Int32.lt_iff_toInt_lt.mp z
  have h0 : (0 : Int32).toInt = 0 := by decide
  omega
theorem xk_plain : Jvm.Cond.fieldLink "RecordLayouts" 424 "RecordLayouts" "PLAIN_BYTES" "[I" ∈ kxT := xk 3 114 rfl rfl
theorem xk_arrB : Jvm.Cond.arrayClass (newarray.typeOf .byte) ∈ kxT := xk 1 74 rfl rfl
theorem xk_arrI : Jvm.Cond.arrayClass (newarray.typeOf .int) ∈ kxT := xk 1 75 rfl rfl
theorem xk_arrL : Jvm.Cond.arrayClass (newarray.typeOf .long) ∈ kxT := xk 1 239 rfl rfl
theorem xk_cpyL : Jvm.Cond.methodLink (xclsN 5) 40 arraycopyName ∈ kxT := xk 2 175 rfl rfl
theorem xk_cpyN : Jvm.Cond.native arraycopyName ∈ kxT := xk 2 177 rfl rfl
theorem xk_cpyS : Jvm.Cond.static arraycopyName ∈ kxT := xk 2 176 rfl rfl
theorem xk_cpyI : Jvm.Cond.initialized "java/lang/System" ∈ kxT := xk 1 17 rfl rfl
section XC
variable {p : Program} {l : Launch} {e : Env} {R : Room} {s : State} {m : MethodId} {args : Array Value} {below : List Frame} {meth : Method} {c : Code} {D : va_G} {dA : Nat → ClassId} {ad : Nat → Nat} {A : Nat → Prop} {S : Nat × (Nat → Int32)} {mi c0 n0 : Nat} {Q : State → Prop} {pc len : Nat} {lc : List (Nat × Value)} {st : List Value} {M : xM} {F : xF} {H : Heap}
theorem xat_arr {a k : Nat} {n : Nat} (h1 : (mSh M a) = (k, n)) : (k = 1 → xwE dA ad M a = .inl (dA 1, n, .inl (mI M a))) ∧ (k = 2 → xwE dA ad M a = .inl (dA 2, n, .inr (.inl (mL M a)))) ∧ (k = 3 → xwE dA ad M a = .inl (dA 3, n, .inl (mI M a))) ∧ (15 ≤ k → xwE dA ad M a = .inl (dA k, n, .inr (.inr (.inr (.inr (fun j => (mR M a j).map ad)))))) ∧ (4 ≤ k → k < 15 → xwE dA ad M a = .inr (k - 4, xfs ad M (k - 4) a)) := by
  unfold xwE
  rw [h1]
  refine ⟨fun h => by subst h; rfl, fun h => by subst h; rfl, fun h => by subst h; rfl, fun h => ?_, fun h h' => ?_⟩
  · dsimp only
    rw [if_neg (by omega), if_neg (by omega), if_neg (by omega), if_pos h]
  · dsimp only
    rw [if_neg (by omega), if_neg (by omega), if_neg (by omega), if_neg (by omega)]
theorem xft_ok {i : Nat} {q : Nat × Nat × Nat} (h : xfind (xft (xown mi)) i = some q) : Jvm.Cond.fieldLink (xclsN (xown mi)) i (xclsN q.1) (xfd q.1 q.2.1).2.1 (xfd q.1 q.2.1).2.2.1 ∈ kxT ∧ (xfd q.1 q.2.1).1 = xclsN q.1 ∧ q.1 < 11 ∧ q.2.1 < (xfk q.1).length ∧ parseFieldDescriptor (xfd q.1 q.2.1).2.2.1 = some (xfty q.1 q.2.1) ∧ ((xfk q.1)[q.2.1]? = some 0 ∨ (xfk q.1)[q.2.1]? = some 1 ∨ (xfk q.1)[q.2.1]? = some 2 ∨ ((xfk q.1)[q.2.1]? = some 3 ∧ fits (xfty q.1 q.2.1) .null = true ∧ fits (xfty q.1 q.2.1) (.ref 0) = true)) := by
  have h0 := xall (P := xftP) xft_all xft_b (xfind_mem h)
  unfold xftP at h0
  simp only [Bool.and_eq_true, decide_eq_true_eq] at h0
  obtain ⟨⟨⟨⟨⟨h1, h2⟩, h3⟩, h4⟩, h5⟩, h6⟩ := h0
  refine ⟨xchk_in h1, h2, h3, h4, h5, ?_⟩
  split at h6
  · next e => exact Or.inl e
  · next e => exact Or.inr (Or.inl e)
  · next e => exact Or.inr (Or.inr (Or.inl e))
  · next e =>
    simp only [Bool.and_eq_true, decide_eq_true_eq] at h6
    exact Or.inr (Or.inr (Or.inr ⟨e, h6.1.1, h6.1.2⟩))
  · cases h6
theorem fits_ref {ty : FieldType} {a b : Nat} (h : fits ty (.ref a) = true) : fits ty (.ref b) = true := by
  cases ty <;> first | rfl | cases h
theorem narrow_ref {ty : FieldType} {a : Nat} (h : fits ty (.ref a) = true) : narrow ty (.ref a) = .ref a := by
  cases ty <;> first | rfl | cases h
theorem narrow_nul {ty : FieldType} (h : fits ty .null = true) : narrow ty .null = .null := by
  cases ty <;> first | rfl | cases h
theorem xputf_ok {q1 q2 a : Nat} {v : Value} {M' : xM} (hty : (xfk q1)[q2]? = some 0 ∨ (xfk q1)[q2]? = some 1 ∨ (xfk q1)[q2]? = some 2 ∨ ((xfk q1)[q2]? = some 3 ∧ fits (xfty q1 q2) .null = true ∧ fits (xfty q1 q2) (.ref 0) = true)) (h : xputf M q1 a q2 v = some M') :
    M'.1 = M.1 ∧ mSh M' = mSh M ∧ narrow (xfty q1 q2) (xL ad v) = xL ad v ∧ fits (xfty q1 q2) (xL ad v) = true ∧ (∀ b, b ≠ a → mI M' b = mI M b ∧ mL M' b = mL M b ∧ mR M' b = mR M b) ∧ xfs ad M' q1 a = (xfs ad M q1 a).set q2 (xL ad v) := by
  have hset : ∀ M' : xM, (∀ k, k < (xfk q1).length → (k = q2 → xfld M' q1 a k = some v) ∧ (k ≠ q2 → xfld M' q1 a k = xfld M q1 a k)) → xfs ad M' q1 a = (xfs ad M q1 a).set q2 (xL ad v) := by
    intro M' hM
    unfold xfs
    apply List.ext_getElem?
    intro k
    rw [List.getElem?_set]
    by_cases hk : k < (xfk q1).length
    · rw [List.getElem?_map, List.getElem?_map, List.getElem?_range hk]
      simp only [Option.map_some, List.length_map, List.length_range]
      by_cases hkq : q2 = k
      · rw [if_pos hkq, if_pos (by omega), ((hM k hk).1 hkq.symm)]; rfl
      · rw [if_neg hkq, ((hM k hk).2 (Ne.symm hkq))]
    · have e1 : ((List.range (xfk q1).length).map fun k => xL ad ((xfld M' q1 a k).getD .null))[k]? = none := List.getElem?_eq_none (by simp; omega)
      have e2 : ((List.range (xfk q1).length).map fun k => xL ad ((xfld M q1 a k).getD .null))[k]? = none := List.getElem?_eq_none (by simp; omega)
      rw [e1, e2]
      split
      · split
        · exfalso; simp at *; omega
        · rfl
      · rfl
  rcases hty with hk | hk | hk | ⟨hk, f1, f2⟩
  · have ht : xfty q1 q2 = .int := by unfold xfty; rw [hk]; rfl
    unfold xputf at h
    rw [hk] at h
    cases v with
    | int x =>
      cases h
      refine ⟨rfl, rfl, by rw [ht]; rfl, by rw [ht]; rfl, fun b hb => ⟨up2_ne hb, rfl, rfl⟩, hset _ fun k _ => ⟨fun e => ?_, fun e => ?_⟩⟩
      · subst e; unfold xfld; rw [hk]; show some (Value.int (up2 (mI M) a k x a k)) = _; unfold up2; rw [if_pos rfl, if_pos rfl]
      · unfold xfld; show (match (xfk q1)[k]? with | some 2 => _ | some 3 => _ | some _ => some (Value.int (up2 (mI M) a q2 x a k)) | none => none) = _; rw [up2_eq]; dsimp only; rw [if_neg e]; rfl
    | _ => cases h
  · have ht : xfty q1 q2 = .boolean := by unfold xfty; rw [hk]; rfl
    unfold xputf at h
    rw [hk] at h
    cases v with
    | int x =>
      replace h := u_if h
      obtain ⟨hx, h⟩ := h
      cases h
      refine ⟨rfl, rfl, by rw [ht]; rcases hx with rfl | rfl <;> rfl, by rw [ht]; rcases hx with rfl | rfl <;> rfl, fun b hb => ⟨up2_ne hb, rfl, rfl⟩, hset _ fun k _ => ⟨fun e => ?_, fun e => ?_⟩⟩
      · subst e; unfold xfld; rw [hk]; show some (Value.int (up2 (mI M) a k x a k)) = _; unfold up2; rw [if_pos rfl, if_pos rfl]
      · unfold xfld; show (match (xfk q1)[k]? with | some 2 => _ | some 3 => _ | some _ => some (Value.int (up2 (mI M) a q2 x a k)) | none => none) = _; rw [up2_eq]; dsimp only; rw [if_neg e]; rfl
    | _ => cases h
  · have ht : xfty q1 q2 = .long := by unfold xfty; rw [hk]; rfl
    unfold xputf at h
    rw [hk] at h
    cases v with
    | long x =>
      cases h
      refine ⟨rfl, rfl, by rw [ht]; rfl, by rw [ht]; rfl, fun b hb => ⟨rfl, up2_ne hb, rfl⟩, hset _ fun k _ => ⟨fun e => ?_, fun e => ?_⟩⟩
      · subst e; unfold xfld; rw [hk]; show some (Value.long (up2 (mL M) a k x a k)) = _; unfold up2; rw [if_pos rfl, if_pos rfl]
      · unfold xfld; show (match (xfk q1)[k]? with | some 2 => some (Value.long (up2 (mL M) a q2 x a k)) | some 3 => _ | some _ => _ | none => none) = _; rw [up2_eq]; dsimp only; rw [if_neg e]; rfl
    | _ => cases h
  · unfold xputf at h
    rw [hk] at h
    have fin : ∀ r : Option Nat, M' = wR M a q2 r → v = xrv r → M'.1 = M.1 ∧ mSh M' = mSh M ∧ narrow (xfty q1 q2) (xL ad v) = xL ad v ∧ fits (xfty q1 q2) (xL ad v) = true ∧ (∀ b, b ≠ a → mI M' b = mI M b ∧ mL M' b = mL M b ∧ mR M' b = mR M b) ∧ xfs ad M' q1 a = (xfs ad M q1 a).set q2 (xL ad v) := by
      intro r hM hv
      subst hM
      have f : narrow (xfty q1 q2) (xL ad v) = xL ad v ∧ fits (xfty q1 q2) (xL ad v) = true := by
        subst hv
        cases r with
        | none => exact ⟨narrow_nul f1, f1⟩
        | some b => exact ⟨narrow_ref (fits_ref (b := ad b) f2), fits_ref f2⟩
      refine ⟨rfl, rfl, f.1, f.2, fun b hb => ⟨rfl, rfl, up2_ne hb⟩, hset _ fun k _ => ⟨fun e => ?_, fun e => ?_⟩⟩
      · subst e; unfold xfld; rw [hk, hv]; show some (xrv (up2 (mR M) a k r a k)) = _; unfold up2; rw [if_pos rfl, if_pos rfl]
      · unfold xfld; show (match (xfk q1)[k]? with | some 2 => _ | some 3 => some (xrv (up2 (mR M) a q2 r a k)) | some _ => _ | none => none) = _; rw [up2_eq]; dsimp only; rw [if_neg e]; rfl
    cases v with
    | ref b => replace h := (u_if h).2; cases h; exact fin (some b) rfl rfl
    | null => replace h := (u_if h).2; cases h; exact fin none rfl rfl
    | _ => cases h
theorem x_put {own : String} {index ci a k0 : Nat} {fs : List Value} {v : Value} {pc : Nat} {ls : Array Slot} {rest : List Value} {ws : va_W} {locs : List Loc} {cells slots : Nat} {cc : ByteArray} (hexec : p.tables.exec = Jvm.exec) (hb : c.code = cc) (hts : ∀ w ∈ kxT, w.before args s = true) (hown : s.vm.findClass own = some m.cls) (hK : va_K D vwCl (xtys dA) s) (hP : va_P D vwCl ws H) (hD : va_D A ws) (hS0 : va_S A s.heap H locs) (q0 : Nat) (he : ws[q0]? = some (a, .inr (ci, fs))) (hc : ci < 11) (hk : k0 < (xfk ci).length) (hdecl : (xfd ci k0).1 = xclsN ci) (hlink : (Cond.fieldLink own index (xclsN ci) (xfd ci k0).2.1 (xfd ci k0).2.2.1).before args s = true) (hfin : (xfd ci k0).2.2.2 = true → meth.name = "<init>" ∧ own = xclsN ci)
    (hn : narrow (xfty ci k0) v = v) (hfit : fits (xfty ci k0) v = true) (hl : k0 < fs.length) (hdg : decode cc pc = .ok (.putfield index, 3)) (kk : ∀ (H1 : Heap) (locs1 : List Loc), H1.size = H.size → va_P D vwCl (ws.set q0 (a, .inr (ci, fs.set k0 v))) H1 → va_S A s.heap H1 locs1 → W p l e R s m args below meth c H1 locs1 cells slots Q (F0 m (pc + 3) ls rest)) : W p l e R s m args below meth c H locs cells slots Q (F0 m pc ls (v :: .ref a :: rest)) := by
  have hcl := xclassT hc
  have hin := xlays_in hc
  have hap := va_apart (own := own) hts hin (xfty ci) (xty_all ci hc) (xnm_all ci hc) hK hcl
  obtain ⟨r, h1, cell, q1, q2, q3, q4⟩ := hP q0 _ he
  have hr : r = (xclsN ci, xfd ci, (xfk ci).length) := Option.some.inj (h1.symm.trans hcl)
  subst hr
  obtain ⟨hSl, hfc, kC, hkC, hkind⟩ := hK.1 ci _ hcl
  obtain ⟨cf, kf, fi, f, hi, hsl⟩ := hSl k0 hk
  have hi' : s.fieldFound? (xclsN ci) (xfd ci k0).2.1 (xfd ci k0).2.2.1 = some (cf, kf, fi, f) := by rw [← hdecl]; exact hi
  have hlay := hts _ (hin _ (u_in_lay hk))
  have hst := (u_facts hfc hkC (u_lays hts hin hk) hi).1
  have hd := xty_all ci hc k0 hk
  have fin : ∀ H' : Heap, H'[a]? = some (cell.setSlot f.slot v) → H'.size = H.size → (∀ q, q ≠ a → H'[q]? = H[q]?) → W p l e R s m args below meth c H' (locs ++ [⟨a, f.slot⟩]) cells slots Q (F0 m (pc + 3) ls rest) := by
    intro H' e1 e2 e3
    rw [hsl] at e1 ⊢
    exact kk H' _ e2 (hP.set hD he ⟨_, hcl, t_OB.to (V := updV (vp_V fs) k0 v) ⟨_, e1, q2, q3, t_set q4 hap hk v⟩ (fun j _ => vp_updV_set hl v j)⟩ e3) (hS0.put e2 e3 (hD.2 q0 _ he))
  unfold u_lay at hlay
  cases hfb : (xfd ci k0).2.2.2 with
  | false =>
    rw [if_neg (by rw [hfb]; decide)] at hlay
    have h6 := u_store hfc hkC hkind hlay hi hd hn hfit
    exact W.putK hexec hb (f := f) ⟨hown, hlink, ⟨_, _, _, hi'⟩, hst⟩ (by rw [q2]; exact h6) q1 q3 (by rw [hsl]; exact k2_hasslot (q4 k0 hk)) rfl rfl hdg fin
  | true =>
    rw [if_pos hfb] at hlay
    obtain ⟨hin2, how⟩ := hfin hfb
    have hcf : m.cls = cf := by
      obtain ⟨_, _, c', _, _, _, -, -, hf', -, -, -, hown2, -⟩ := Cond.laysFinal_spec hlay
      have e1 : c' = cf := by have := hi.symm.trans hf'; simp at this; exact this.1.symm
      rw [hdecl, ← how] at hown2
      rw [← e1]; exact Option.some.inj (hown.symm.trans hown2)
    have h6 := u_fits hfc hkC hkind (Or.inr hlay) hi hd hn hfit
    exact W.putFinK hexec hb hown hlink hi' hst hcf hin2 (by rw [q2]; exact h6) q1 q3 (by rw [hsl]; exact k2_hasslot (q4 k0 hk)) rfl rfl hdg fin
theorem xst_i {k0 : Nat} {n a : Nat} {f : Nat → Int32} {y : Int32} {ws : va_W} {q0 : Nat} {cA : ClassId} (hP : va_P D vwCl ws H) (hD : va_D A ws) (ha : ws[q0]? = some (a, .inl (cA, n, .inl f))) {H1 : Heap} (e : H1[a]? = some ((vp_cell cA (n, .inl f)).setSlot k0 (.int y))) (oq : ∀ q : Nat, q ≠ a → H1[q]? = H[q]?) : va_P D vwCl (ws.set q0 (a, .inl (cA, n, .inl (fun k => if k = k0 then y else f k)))) H1 := by
  refine hP.set hD ha ?_ oq
  show H1[a]? = some (vp_cell _ _)
  rw [e, vp_cell_i, vp_cell_i, arrV_store]
  congr 2
  funext q
  by_cases hq : q = k0
  · subst hq; simp [updV]
  · simp [updV, hq]
theorem xst_l {n a k0 : Nat} {f : Nat → Int64} {y : Int64} {ws : va_W} {q0 : Nat} {cA : ClassId} (hP : va_P D vwCl ws H) (hD : va_D A ws) (ha : ws[q0]? = some (a, .inl (cA, n, .inr (.inl f)))) {H1 : Heap} (e : H1[a]? = some ((vp_cell cA (n, .inr (.inl f))).setSlot k0 (.long y))) (oq : ∀ q : Nat, q ≠ a → H1[q]? = H[q]?) : va_P D vwCl (ws.set q0 (a, .inl (cA, n, .inr (.inl (fun k => if k = k0 then y else f k))))) H1 := by
  refine hP.set hD ha ?_ oq
  show H1[a]? = some (vp_cell _ _)
  rw [e, vp_cell_l, vp_cell_l, arrV_store]
  congr 2
  funext q
  by_cases hq : q = k0
  · subst hq; simp [updV]
  · simp [updV, hq]
theorem xst_q {n a v k0 : Nat} {f : Nat → Option Nat} {ws : va_W} {q0 : Nat} {cA : ClassId} (hP : va_P D vwCl ws H) (hD : va_D A ws) (ha : ws[q0]? = some (a, .inl (cA, n, .inr (.inr (.inr (.inr f)))))) {H1 : Heap} (e : H1[a]? = some ((vp_cell cA (n, .inr (.inr (.inr (.inr f))))).setSlot k0 (.ref v))) (oq : ∀ q : Nat, q ≠ a → H1[q]? = H[q]?) : va_P D vwCl (ws.set q0 (a, .inl (cA, n, .inr (.inr (.inr (.inr (fun k => if k = k0 then some v else f k))))))) H1 := by
  refine hP.set hD ha ?_ oq
  show H1[a]? = some (vp_cell _ _)
  rw [e, vp_cell_q, vp_cell_q, arrV_store]
  congr 2
  funext q
  by_cases hq : q = k0
  · subst hq; simp [updV, va_rf]
  · simp [updV, hq]
theorem x_copy {own : String} {index a a0 q0 q1 t0 : Nat} {c0' : ClassId} {n0' n1' : Nat} {f g : Nat → Int32} {sp dp n : Int32} {pc : Nat} {ls : Array Slot} {rest : List Value} {ws : va_W} {locs : List Loc} {cells slots : Nat} {cc : ByteArray} (hexec : p.tables.exec = Jvm.exec) (hb : c.code = cc) (hml : c.maxLocals = ls.size) (hown : s.vm.findClass own = some m.cls) (hlink : (Cond.methodLink own index arraycopyName).before args s = true) (hnat : (Cond.native arraycopyName).before args s = true) (hstat : (Cond.static arraycopyName).before args s = true) (hini : (Cond.initialized "java/lang/System").before args s = true)
    (hK : va_K D vwCl (xtys dA) s) (hP : va_P D vwCl ws H) (hD : va_D A ws) (hS : va_S A s.heap H locs) (ha0 : ws[q0]? = some (a0, .inl (c0', n0', .inl f))) (ha1 : ws[q1]? = some (a, .inl (c0', n1', .inl g))) (ht0 : (xtys dA)[t0]? = some (c0', .byte))
    (h1 : 0 ≤ sp.toInt) (h2 : 0 ≤ dp.toInt) (h3 : 0 ≤ n.toInt) (h4 : sp.toNatClampNeg + n.toNatClampNeg ≤ n0') (h5 : dp.toNatClampNeg + n.toNatClampNeg ≤ n1') (hfit : ∀ i, i < n.toNatClampNeg → fits .byte (.int (f (sp.toNatClampNeg + i))) = true)
    (hframes : 1 ≤ R.frames) (hlocals : (rest.map fun v => v.category).sum + (nativeFrameWords "java/lang/System" "arraycopy" 5 + 11) ≤ R.locals) (hdg : decode cc pc = .ok (.invokestatic index, 3))
    (kk : ∀ (H1 : Heap) (locs1 : List Loc), H1.size = H.size → va_P D vwCl (ws.set q1 (a, .inl (c0', n1', .inl (va_cpy f g sp.toNatClampNeg dp.toNatClampNeg n.toNatClampNeg)))) H1 → va_S A s.heap H1 locs1 → W p l e R s m args below meth c H1 locs1 cells slots Q (F0 m (pc + 3) ls rest)) : W p l e R s m args below meth c H locs cells slots Q (F0 m pc ls (.int n :: .int dp :: .ref a :: .int sp :: .ref a0 :: rest)) := by
  have nn : ∀ z : Int32, 0 ≤ z.toInt → z.toInt = (z.toNatClampNeg : Int) := by
    intro z hz
    show z.toInt = ((z.toInt.toNat : Nat) : Int)
    omega
  intro T hT X
  have hc0 : H[a0]? = some (vp_cell c0' (n0', .inl f)) := hP q0 _ ha0
  have hc1 : H[a]? = some (vp_cell c0' (n1', .inl g)) := hP q1 _ ha1
  obtain ⟨-, k0, hk0, cm0, hkk0⟩ := (hK.2 t0 _ ht0).1 n0' (fun j => .int (f j))
  obtain ⟨-, k1, hk1, cm1, hkk1⟩ := (hK.2 t0 _ ht0).1 n1' (fun j => .int (g j))
  obtain ⟨vm', X', step⟩ := X.arraycopy hexec hown hlink hnat hstat hini (src := a0) (dst := a) (cs := vp_cell c0' (n0', .inl f)) (cd := vp_cell c0' (n1', .inl g)) (srcPos := sp) (destPos := dp) (n := n) (by rw [hT]; exact hc0) (by rw [hT]; exact hc1)
    (fun _ h => by cases h) (fun _ h => by cases h) (fun h => by cases h) (fun h => by cases h) hk0 hk1 hkk0 hkk1 (by simp [refKind]) (xin_toInt h1) (xin_toInt h2) (xin_toInt h3)
    (by rw [nn sp h1, nn n h3]; show ¬ _ > ((arrV c0' n0' (fun j => .int (f j))).slots.size : Int); rw [arrV_size]; omega)
    (by rw [nn dp h2, nn n h3]; show ¬ _ > ((arrV c0' n1' (fun j => .int (g j))).slots.size : Int); rw [arrV_size]; omega)
    (fun vm₁ _ i hi => by
      have e : (vp_cell c0' (n0', .inl f)).slots.getD (sp.toNatClampNeg + i) .null = .int (f (sp.toNatClampNeg + i)) := by
        show (arrV c0' n0' (fun j => .int (f j))).slots.getD _ _ = _
        rw [Array.getD_eq_getD_getElem?, arrV_read _ _ (by omega)]
        rfl
      refine ⟨?_, ?_⟩
      · rw [e]
        exact hfit i hi
      · rw [e]
        exact trivial)
    (g := F0 m pc ls (.int n :: .int dp :: .ref a :: .int sp :: .ref a0 :: rest)) rfl (by rw [hml]) (rest := rest) rfl (by rw [hb]; exact hdg) hframes (by show 2 * 0 + _ + _ ≤ _; omega)
  have e1 : copied (vp_cell c0' (n0', .inl f)) (vp_cell c0' (n1', .inl g)) sp dp n = vp_cell c0' (n1', .inl (va_cpy f g sp.toNatClampNeg dp.toNatClampNeg n.toNatClampNeg)) := va_copied (fun z => .int z) c0' c0' f g h4
  rw [e1] at X' step
  have hl : a < H.size := (Array.getElem?_eq_some_iff.mp hc1).1
  generalize hc9 : vp_cell c0' (n1', .inl (va_cpy f g sp.toNatClampNeg dp.toNatClampNeg n.toNatClampNeg)) = cX at X' step
  have hheap : ((T.setVm vm').setCell a cX).heap = H.setIfInBounds a cX := by rw [← hT]; rfl
  have oq : ∀ q : Nat, q ≠ a → (H.setIfInBounds a cX)[q]? = H[q]? := fun q hq => by simp [Array.getElem?_setIfInBounds, Ne.symm hq]
  obtain ⟨t, a1, b1⟩ := kk _ _ (by simp) (hP.set hD ha1 (show (H.setIfInBounds a cX)[a]? = some _ by rw [hc9]; simp [Array.getElem?_setIfInBounds, hl]) oq) ⟨by simp; exact hS.1, fun q g1 g2 => by
      rw [oq q (fun e => g2 (by rw [e]; exact hD.2 q1 _ ha1))]
      exact hS.2.1 q g1 g2, fun q hq => by
      rcases List.mem_append.mp hq with h | h
      · exact hS.2.2 q h
      · obtain ⟨z, -, hz⟩ := List.mem_map.mp h
        rw [← hz]
        exact hD.2 q1 _ ha1⟩ _ hheap X'
  exact ⟨t, step t a1, b1⟩
set_option maxHeartbeats 8000000 in
theorem xsC {ins : Instr} {S' : Option (Nat × (Nat → Int32))} (hS' : ∀ z, S' = some z → z = S) (C : xC p l R s m args meth c D dA ad A S mi) (hf : decode (xcode mi) pc = .ok (ins, len)) (h : xstepC S' ins len mi pc lc st M = some F) (hc0 : c0 ≤ mNc M) (hn0 : n0 ≤ mNs M) (hcr : mNc F.2.2.2 - c0 ≤ R.cells) (hsr : mNs F.2.2.2 - n0 ≤ R.slots) (hfr : 1 ≤ R.frames) (hlr : 124 ≤ R.locals) (k : xG p l e R s m args below meth c D dA ad A mi c0 n0 Q F) : xG p l e R s m args below meth c D dA ad A mi c0 n0 Q (pc, lc, st, M) := by
  obtain ⟨hx, hb, hml, hown, hts, hKK, had, -, -, hnam, -⟩ := C
  obtain ⟨hK, hNw, ⟨hX0, hX0'⟩, hX1, hZ, -, -, -, -, hAq⟩ := id hKK
  intro H locs ls hR hS hl
  replace hR : xRel D dA ad M H := hR
  replace hl : lv_has ls (xnL mi) (xLl ad lc) := hl
  obtain ⟨hP, h2, hsz, hkk⟩ := id hR
  have hD : va_D A (xW dA ad M) := xW_D had
  have hszS : ∀ H1 : Heap, H1.size = H.size → (mSe M = false → H1.size = ad (mNx M)) := fun H1 e z => by rw [e]; exact hsz z
  cases ins with
  | getfield i =>
    simp only [xstepC] at h
    replace h := u_if h
    obtain ⟨rfl, h⟩ := h
    replace h := u_1A h
    obtain ⟨a, r, rfl, h⟩ := h
    replace h := Option.bind_eq_some_iff.mp h
    obtain ⟨q, hq, h⟩ := h
    replace h := u_if h
    obtain ⟨⟨ha2, ha, hsh⟩, h⟩ := h
    replace h := Option.bind_eq_some_iff.mp h
    obtain ⟨v, hv, h⟩ := h
    cases h
    obtain ⟨w1, w2, w3, w4, w5, w6⟩ := xft_ok hq
    have hE : xwE dA ad M a = .inr (q.1, xfs ad M q.1 a) := by
      have := (xat_arr (dA := dA) (ad := ad) (M := M) (a := a) (k := 4 + q.1) (n := (mSh M a).2) (by rw [← hsh])).2.2.2.2 (by omega) (by omega)
      rw [this, Nat.add_sub_cancel_left]
    exact va_get (D := D) (ci := q.1) (v := xL ad v) (C := xclsN q.1) (T := xfd q.1) (N := (xfk q.1).length) hx hb hts (xlays_in w3) hown hK hP (a - 2) (by rw [xW_get dA ad M ha2 ha, hE]) (xclassT w3) q.2.1 w4 (hts _ w1) (fun x hx => by rw [← w2]; exact hx) (xfs_at hv) hf (k H locs ls hR hS hl)
  | putfield i =>
    simp only [xstepC] at h
    replace h := u_if h
    obtain ⟨rfl, h⟩ := h
    match st, h with
    | v :: .ref a :: r, h =>
      replace h := Option.bind_eq_some_iff.mp h
      obtain ⟨q, hq, h⟩ := h
      replace h := u_if h
      obtain ⟨⟨ha2, ha, hsh, hfin⟩, h⟩ := h
      replace h := Option.bind_eq_some_iff.mp h
      obtain ⟨M', hM', h⟩ := h
      cases h
      obtain ⟨w1, w2, w3, w4, w5, w6⟩ := xft_ok hq
      obtain ⟨g1, g2, g3, g4, g5, g6⟩ := xputf_ok (ad := ad) w6 hM'
      have hE : ∀ N : xM, mSh N = mSh M → xwE dA ad N a = .inr (q.1, xfs ad N q.1 a) := fun N hN => by
        have := (xat_arr (dA := dA) (ad := ad) (M := N) (a := a) (k := 4 + q.1) (n := (mSh M a).2) (by rw [hN, ← hsh])).2.2.2.2 (by omega) (by omega)
        rw [this, Nat.add_sub_cancel_left]
      have hlen : q.2.1 < (xfs ad M q.1 a).length := by unfold xfs; simpa using w4
      have hat := xW_get dA ad M ha2 ha
      rw [hE M rfl] at hat
      have fin : ∀ (H1 : Heap) (locs1 : List Loc), H1.size = H.size → va_P D vwCl ((xW dA ad M).set (a - 2) (ad a, .inr (q.1, (xfs ad M q.1 a).set q.2.1 (xL ad v)))) H1 → va_S A s.heap H1 locs1 → W p l e R s m args below meth c H1 locs1 (mNc M - c0) (mNs M - n0) Q (F0 m (pc + 3) ls (r.map (xL ad))) := by
        intro H1 locs1 z1 hP1 hS1
        have e1 : mNc M' = mNc M := by unfold mNc; rw [g1]
        have e2 : mNs M' = mNs M := by unfold mNs; rw [g1]
        have := k H1 locs1 ls (xRel_set (M := M) ha2 g1 g2 (by rw [hE M' g2, g6]) (fun b hb => xwE_eq (by rw [g2]) (g5 b hb).1 (g5 b hb).2.1 (g5 b hb).2.2) hP1 h2 (hszS H1 z1) hkk) hS1 hl
        dsimp only at this
        rw [e1, e2] at this
        exact this
      exact x_put hx hb hts hown hK hP hD hS (a - 2) hat w3 w4 w2 (hts _ w1) (fun z => by obtain ⟨z1, z2⟩ := hfin (by unfold xfinal; rw [xclassT w3]; exact z); exact ⟨hnam z1, by rw [z2]⟩) g3 g4 hlen hf (fun H1 locs1 z1 hP1 hS1 => fin H1 locs1 z1 hP1 hS1)
    | [], h => cases h
    | [_], h => cases h
  | iaload =>
    simp only [xstepC] at h
    replace h := u_if h
    obtain ⟨rfl, h⟩ := h
    replace h := u_AI h
    obtain ⟨a, j, r, rfl, h⟩ := h
    split at h
    · next ha0 =>
      subst ha0
      replace h := Option.bind_eq_some_iff.mp h
      obtain ⟨q, hq, h⟩ := h
      replace h := u_if h
      obtain ⟨hin, h⟩ := h
      cases h
      have := hS' q hq
      subst this
      exact va_sld hx hb hX0 hX0' had.2.2.1 hS (xin_vp hin) hf (k H locs ls hR hS hl)
    · split at h
      · next ha1 =>
        subst ha1
        replace h := u_if h
        obtain ⟨hin, h⟩ := h
        cases h
        exact va_ti hx hb hX1 hS (xin_vp hin) rfl hf (k H locs ls hR hS hl)
      · next na0 na1 =>
        replace h := u_if h
        obtain ⟨⟨ha, hsh, hin⟩, h⟩ := h
        cases h
        have ha2 : 2 ≤ a := by omega
        obtain ⟨t0, ht0⟩ := xtys_at (dA := dA) (k := 1) (by decide)
        exact va_iald hx hb hK hP (a - 2) t0 (by rw [xW_get dA ad M ha2 ha, (xat_arr (dA := dA) (ad := ad) (M := M) (n := (mSh M a).2) (by rw [← hsh])).1 rfl]) ht0 (xin_vp hin) hf (k H locs ls hR hS hl)
  | laload =>
    simp only [xstepC] at h
    replace h := u_if h
    obtain ⟨rfl, h⟩ := h
    replace h := u_AI h
    obtain ⟨a, j, r, rfl, h⟩ := h
    replace h := u_if h
    obtain ⟨⟨ha2, ha, hsh, hin⟩, h⟩ := h
    cases h
    obtain ⟨t0, ht0⟩ := xtys_at (dA := dA) (k := 2) (by decide)
    exact va_lald hx hb hK hP (a - 2) t0 (by rw [xW_get dA ad M ha2 ha, (xat_arr (dA := dA) (ad := ad) (M := M) (n := (mSh M a).2) (by rw [← hsh])).2.1 rfl]) ht0 (xin_vp hin) hf (k H locs ls hR hS hl)
  | baload =>
    simp only [xstepC] at h
    replace h := u_if h
    obtain ⟨rfl, h⟩ := h
    replace h := u_AI h
    obtain ⟨a, j, r, rfl, h⟩ := h
    replace h := u_if h
    obtain ⟨⟨ha2, ha, hsh, hin⟩, h⟩ := h
    cases h
    obtain ⟨t0, ht0⟩ := xtys_at (dA := dA) (k := 3) (by decide)
    exact va_bald hx hb hK hP (a - 2) t0 (by rw [xW_get dA ad M ha2 ha, (xat_arr (dA := dA) (ad := ad) (M := M) (n := (mSh M a).2) (by rw [← hsh])).2.2.1 rfl]) ht0 (xin_vp hin) hf (k H locs ls hR hS hl)
  | aaload =>
    simp only [xstepC] at h
    replace h := u_if h
    obtain ⟨rfl, h⟩ := h
    replace h := u_AI h
    obtain ⟨a, j, r, rfl, h⟩ := h
    replace h := u_if h
    obtain ⟨⟨ha2, ha, hsh, hin⟩, h⟩ := h
    cases h
    have hkin : (mSh M a).1 ∈ xkinds := by
      rcases hkk a ha2 ha with q | q
      · exact q
      · omega
    obtain ⟨t0, ht0⟩ := xtys_at (dA := dA) hkin
    have hty : xaty (mSh M a).1 = .object (xclsN ((mSh M a).1 - 15)) := by unfold xaty; rw [if_neg (by omega), if_neg (by omega), if_neg (by omega)]
    rw [hty] at ht0
    have hk' := k H locs ls hR hS hl
    have e9 : xL ad (xrv (mR M a j.toNatClampNeg)) = va_rf ((mR M a j.toNatClampNeg).map ad) := by cases mR M a j.toNatClampNeg <;> rfl
    rw [List.map_cons, e9] at hk'
    exact va_aldq hx hb hK hP (a - 2) t0 (by rw [xW_get dA ad M ha2 ha, (xat_arr (dA := dA) (ad := ad) (M := M) (k := (mSh M a).1) (n := (mSh M a).2) rfl).2.2.2.1 hsh]) ht0 (xin_vp hin) hf hk'
  | iastore =>
    simp only [xstepC] at h
    replace h := u_if h
    obtain ⟨rfl, h⟩ := h
    replace h := u_AII h
    obtain ⟨a, j, x, r, rfl, h⟩ := h
    replace h := u_if h
    obtain ⟨⟨ha2, ha, hsh, hin⟩, h⟩ := h
    cases h
    obtain ⟨t0, ht0⟩ := xtys_at (dA := dA) (k := 1) (by decide)
    have hat := xW_get dA ad M ha2 ha
    rw [(xat_arr (dA := dA) (ad := ad) (M := M) (n := (mSh M a).2) (by rw [← hsh])).1 rfl] at hat
    refine W.iast hx hb (hP (a - 2) _ hat) ((hK.2 t0 _ ht0).1 _ (fun j => .int (mI M a j))) (fun q => by cases q) (by show ¬ (j < 0 ∨ (arrV _ _ _).slots.size ≤ _); rw [arrV_size]; exact xin_vp hin) rfl rfl hf fun H1 e z oq => ?_
    have hE : xwE dA ad (wI M a j.toNatClampNeg (x)) a = .inl (dA 1, (mSh M a).2, .inl (fun k => if k = j.toNatClampNeg then x else mI M a k)) := by
      rw [(xat_arr (dA := dA) (ad := ad) (M := wI M a j.toNatClampNeg (x)) (a := a) (n := (mSh M a).2) (k := 1) (by show mSh M a = _; rw [← hsh])).1 rfl]
      rw [show mI (wI M a j.toNatClampNeg (x)) a = _ from up2_eq]
    exact k H1 _ ls (xRel_set (M := M) ha2 rfl rfl hE (fun b hb => xwE_eq rfl (up2_ne hb) rfl rfl) (xst_i hP hD hat e oq) h2 (hszS H1 z) hkk) (hS.put z oq (hD.2 (a - 2) _ hat)) hl
  | bastore =>
    simp only [xstepC] at h
    replace h := u_if h
    obtain ⟨rfl, h⟩ := h
    replace h := u_AII h
    obtain ⟨a, j, x, r, rfl, h⟩ := h
    replace h := u_if h
    obtain ⟨⟨ha2, ha, hsh, hin⟩, h⟩ := h
    cases h
    obtain ⟨t0, ht0⟩ := xtys_at (dA := dA) (k := 3) (by decide)
    have hat := xW_get dA ad M ha2 ha
    rw [(xat_arr (dA := dA) (ad := ad) (M := M) (n := (mSh M a).2) (by rw [← hsh])).2.2.1 rfl] at hat
    refine W.bast hx hb (hP (a - 2) _ hat) ((hK.2 t0 _ ht0).1 _ (fun j => .int (mI M a j))) (fun q => by cases q) (by show ¬ (j < 0 ∨ (arrV _ _ _).slots.size ≤ _); rw [arrV_size]; exact xin_vp hin) rfl rfl hf fun H1 e z oq => ?_
    have hE : xwE dA ad (wI M a j.toNatClampNeg (x.toInt8.toInt32)) a = .inl (dA 3, (mSh M a).2, .inl (fun k => if k = j.toNatClampNeg then x.toInt8.toInt32 else mI M a k)) := by
      rw [(xat_arr (dA := dA) (ad := ad) (M := wI M a j.toNatClampNeg (x.toInt8.toInt32)) (a := a) (n := (mSh M a).2) (k := 3) (by show mSh M a = _; rw [← hsh])).2.2.1 rfl]
      rw [show mI (wI M a j.toNatClampNeg (x.toInt8.toInt32)) a = _ from up2_eq]
    exact k H1 _ ls (xRel_set (M := M) ha2 rfl rfl hE (fun b hb => xwE_eq rfl (up2_ne hb) rfl rfl) (xst_i hP hD hat e oq) h2 (hszS H1 z) hkk) (hS.put z oq (hD.2 (a - 2) _ hat)) hl
  | lastore =>
    simp only [xstepC] at h
    replace h := u_if h
    obtain ⟨rfl, h⟩ := h
    replace h := u_AIL h
    obtain ⟨a, j, x, r, rfl, h⟩ := h
    replace h := u_if h
    obtain ⟨⟨ha2, ha, hsh, hin⟩, h⟩ := h
    cases h
    obtain ⟨t0, ht0⟩ := xtys_at (dA := dA) (k := 2) (by decide)
    have hat := xW_get dA ad M ha2 ha
    rw [(xat_arr (dA := dA) (ad := ad) (M := M) (n := (mSh M a).2) (by rw [← hsh])).2.1 rfl] at hat
    refine W.last hx hb (hP (a - 2) _ hat) ((hK.2 t0 _ ht0).1 _ (fun j => .long (mL M a j))) (fun q => by cases q) (by show ¬ (j < 0 ∨ (arrV _ _ _).slots.size ≤ _); rw [arrV_size]; exact xin_vp hin) rfl rfl hf fun H1 e z oq => ?_
    have hE : xwE dA ad (wL M a j.toNatClampNeg (x)) a = .inl (dA 2, (mSh M a).2, .inr (.inl (fun k => if k = j.toNatClampNeg then x else mL M a k))) := by
      rw [(xat_arr (dA := dA) (ad := ad) (M := wL M a j.toNatClampNeg (x)) (a := a) (n := (mSh M a).2) (k := 2) (by show mSh M a = _; rw [← hsh])).2.1 rfl]
      rw [show mL (wL M a j.toNatClampNeg (x)) a = _ from up2_eq]
    exact k H1 _ ls (xRel_set (M := M) ha2 rfl rfl hE (fun b hb => xwE_eq rfl rfl (up2_ne hb) rfl) (xst_l hP hD hat e oq) h2 (hszS H1 z) hkk) (hS.put z oq (hD.2 (a - 2) _ hat)) hl
  | aastore =>
    simp only [xstepC] at h
    replace h := u_if h
    obtain ⟨rfl, h⟩ := h
    replace h := u_AIA h
    obtain ⟨a, j, x, r, rfl, h⟩ := h
    replace h := u_if h
    obtain ⟨⟨ha2, ha, hx2, hx3, hs4, hs15, hsh, hin, -⟩, h⟩ := h
    cases h
    have h15 : 15 ≤ (mSh M a).1 := by omega
    have hkin : (mSh M a).1 ∈ xkinds := by
      rcases hkk a ha2 ha with q | q
      · exact q
      · omega
    obtain ⟨t0, ht0⟩ := xtys_at (dA := dA) hkin
    have hty : xaty (mSh M a).1 = .object (xclsN ((mSh M x).1 - 4)) := by unfold xaty; rw [if_neg (by omega), if_neg (by omega), if_neg (by omega), show (mSh M a).1 - 15 = (mSh M x).1 - 4 by omega]
    rw [hty] at ht0
    have hat := xW_get dA ad M ha2 ha
    rw [(xat_arr (dA := dA) (ad := ad) (M := M) (k := (mSh M a).1) (n := (mSh M a).2) rfl).2.2.2.1 h15] at hat
    have hax := xW_get dA ad M hx2 hx3
    rw [(xat_arr (dA := dA) (ad := ad) (M := M) (k := (mSh M x).1) (n := (mSh M x).2) rfl).2.2.2.2 hs4 hs15] at hax
    have hvp := xin_vp hin
    have hlt : j.toNatClampNeg < (mSh M a).2 := Nat.not_le.mp fun q => hvp (Or.inr q)
    have h0 : ¬ j < 0 := fun q => hvp (Or.inl q)
    obtain ⟨r', hr', cellV, g1, g2, g3, -⟩ := hP _ _ hax
    have hcls := (hK.1 ((mSh M x).1 - 4) _ (xclassT (by omega))).2
    obtain ⟨kA, comp, k1, k2, k3, -⟩ := (hK.2 t0 _ ht0).2
    have hcomp : comp = D.1 ((mSh M x).1 - 4) := Option.some.inj (k3.symm.trans hcls.1)
    subst hcomp
    obtain ⟨kC, hkC, -⟩ := hcls.2
    refine W.aast hx hb (hP _ _ hat) (fun q h => by cases h) (fun h => by cases h) k1 k2 rfl hkC ⟨h0, by show _ < (arrV _ _ _).slots.size; rw [arrV_size]; exact hlt⟩ g1 (fun q h => by rw [g3] at h; cases h) (by rw [g2]; exact hkC) (by rw [g2]; exact va_assign hcls) rfl rfl hf fun H1 e z oq => ?_
    have hE : xwE dA ad (wR M a j.toNatClampNeg (some x)) a = .inl (dA (mSh M a).1, (mSh M a).2, .inr (.inr (.inr (.inr (fun k => if k = j.toNatClampNeg then some (ad x) else (mR M a k).map ad))))) := by
      rw [(xat_arr (dA := dA) (ad := ad) (M := wR M a j.toNatClampNeg (some x)) (a := a) (n := (mSh M a).2) (k := (mSh M a).1) rfl).2.2.2.1 h15]
      rw [show mR (wR M a j.toNatClampNeg (some x)) a = _ from up2_eq]
      have : (fun k => ((fun k => if k = j.toNatClampNeg then some x else mR M a k) k).map ad) = fun k => if k = j.toNatClampNeg then some (ad x) else (mR M a k).map ad := by
        funext k
        dsimp only
        split <;> rfl
      rw [← this]
    exact k H1 _ ls (xRel_set (M := M) ha2 rfl rfl hE (fun b hb => xwE_eq rfl rfl rfl (up2_ne hb)) (xst_q hP hD hat e oq) h2 (hszS H1 z) hkk) (hS.put z oq (hD.2 (a - 2) _ hat)) hl
  | arraylength =>
    simp only [xstepC] at h
    replace h := u_if h
    obtain ⟨rfl, h⟩ := h
    replace h := u_1A h
    obtain ⟨a, r, rfl, h⟩ := h
    split at h
    · next ha0 =>
      subst ha0
      replace h := Option.bind_eq_some_iff.mp h
      obtain ⟨q, hq, h⟩ := h
      cases h
      have := hS' q hq
      subst this
      exact va_slen hx hb hX0 hX0' had.2.2.1 hS hf (k H locs ls hR hS hl)
    · replace h := u_if h
      obtain ⟨⟨ha2, ha, hsh⟩, h⟩ := h
      cases h
      rcases hsh with hsh | hsh
      · obtain ⟨t0, ht0⟩ := xtys_at (dA := dA) (k := 1) (by decide)
        have hat := xW_get dA ad M ha2 ha
        rw [(xat_arr (dA := dA) (ad := ad) (M := M) (n := (mSh M a).2) (by rw [← hsh])).1 rfl] at hat
        exact va_alen hx hb hK hP (a - 2) t0 hat ht0 rfl hf (k H locs ls hR hS hl)
      · obtain ⟨t0, ht0⟩ := xtys_at (dA := dA) (k := 2) (by decide)
        have hat := xW_get dA ad M ha2 ha
        rw [(xat_arr (dA := dA) (ad := ad) (M := M) (n := (mSh M a).2) (by rw [← hsh])).2.1 rfl] at hat
        exact va_alen hx hb hK hP (a - 2) t0 hat ht0 rfl hf (k H locs ls hR hS hl)
  | getstatic i =>
    simp only [xstepC] at h
    replace h := u_if h
    obtain ⟨⟨rfl, ho, rfl⟩, h⟩ := h
    cases h
    have hw : Jvm.Cond.fieldLink "RecordLayouts" 424 "RecordLayouts" "PLAIN_BYTES" "[I" ∈ kxT := xk_plain
    rw [ho] at hown
    exact va_gets hx hb hZ hS hown (hts _ hw) (fun _ h9 => h9) hf (k H locs ls hR hS hl)
  | newarray ty =>
    simp only [xstepC] at h
    replace h := u_if h
    obtain ⟨⟨rfl, hse⟩, h⟩ := h
    replace h := u_1I h
    obtain ⟨n, r, rfl, h⟩ := h
    replace h := u_if h
    obtain ⟨⟨hn0', hn1⟩, h⟩ := h
    have done : ∀ (kd : Nat) (F' : xF), F' = (pc + 2, lc, .ref (mNx M) :: r, xnew M (kd, n.toNatClampNeg) n.toNatClampNeg) → F' = F → kd ∈ xkinds → (∀ C, newarray.typeOf ty ≠ .object C) → xaty kd = newarray.typeOf ty → (Cond.arrayClass (newarray.typeOf ty)).before args s = true → n.toNatClampNeg * componentBytes (newarray.typeOf ty) ≤ 536870912 → (∀ H1 : Heap, H1[ad (mNx M)]? = some (arrV (dA kd) n.toNatClampNeg (fun _ => defaultValue (newarray.typeOf ty))) → va_at D vwCl (ad (mNx M), xwE dA ad (xnew M (kd, n.toNatClampNeg) n.toNatClampNeg) (mNx M)) H1) → W p l e R s m args below meth c H locs (mNc M - c0) (mNs M - n0) Q (F0 m pc ls (.int n :: r.map (xL ad))) := by
      intro kd F' e1 e2 hkd hno hxa hac hbytes hat
      subst e1
      subst e2
      obtain ⟨t0, ht0⟩ := xtys_at (dA := dA) hkd
      rw [hxa] at ht0
      have cr : mNc M + 1 - c0 ≤ R.cells := hcr
      have sr : mNs M + n.toNatClampNeg - n0 ≤ R.slots := hsr
      refine x_newa hx hb hac had hR hse hS hkd (fun cA h => xRA_prim (hK.2 t0 _ ht0).2 hno h) hat (xin_toInt hn0') rfl hbytes (by omega) (by omega) hf fun H1 hR1 hS1 => ?_
      have := k H1 locs ls hR1 hS1 hl
      dsimp only at this
      rw [show mNc (xnew M (kd, n.toNatClampNeg) n.toNatClampNeg) = mNc M + 1 from rfl, show mNs (xnew M (kd, n.toNatClampNeg) n.toNatClampNeg) = mNs M + n.toNatClampNeg from rfl, show mNc M + 1 - c0 = mNc M - c0 + 1 by omega, show mNs M + n.toNatClampNeg - n0 = mNs M - n0 + n.toNatClampNeg by omega] at this
      exact this
    cases ty with
    | int => exact done 1 _ rfl (Option.some.inj h) (by decide) (fun C h => by cases h) rfl (hts _ xk_arrI) (by show _ * 4 ≤ _; omega) (fun H1 h1 => by unfold xwE; rw [xnewSh, if_pos rfl, xnewI]; exact h1)
    | long => exact done 2 _ rfl (Option.some.inj h) (by decide) (fun C h => by cases h) rfl (hts _ xk_arrL) (by show _ * 8 ≤ _; omega) (fun H1 h1 => by unfold xwE; rw [xnewSh, if_neg (show ¬ (2 : Nat) = 1 by decide), if_pos rfl, xnewL]; exact h1)
    | byte => exact done 3 _ rfl (Option.some.inj h) (by decide) (fun C h => by cases h) rfl (hts _ xk_arrB) (by show _ * 1 ≤ _; omega) (fun H1 h1 => by unfold xwE; rw [xnewSh, if_neg (show ¬ (3 : Nat) = 1 by decide), if_neg (show ¬ (3 : Nat) = 2 by decide), if_pos rfl, xnewI]; exact h1)
    | _ => cases h
  | anewarray i =>
    simp only [xstepC] at h
    replace h := u_if h
    obtain ⟨⟨rfl, hse⟩, h⟩ := h
    replace h := u_1I h
    obtain ⟨n, r, rfl, h⟩ := h
    replace h := u_if h
    obtain ⟨⟨hn0', hn1⟩, h⟩ := h
    replace h := Option.bind_eq_some_iff.mp h
    obtain ⟨q, hq, h⟩ := h
    cases h
    have h0 := xall (P := xnaP) xna_all xna_b (xfind_mem hq)
    unfold xnaP at h0
    simp only [Bool.and_eq_true, decide_eq_true_eq] at h0
    obtain ⟨⟨w1, w2⟩, w3⟩ := h0
    obtain ⟨t0, ht0⟩ := xtys_at (dA := dA) w3
    have hty : xaty (15 + q.1) = .object (xclsN q.1) := by unfold xaty; rw [if_neg (by omega), if_neg (by omega), if_neg (by omega), Nat.add_sub_cancel_left]
    rw [hty] at ht0
    have cr : mNc M + 1 - c0 ≤ R.cells := hcr
    have sr : mNs M + n.toNatClampNeg - n0 ≤ R.slots := hsr
    have hcc : mNc M - c0 + 1 ≤ R.cells := by omega
    have hss : mNs M - n0 + n.toNatClampNeg ≤ R.slots := by omega
    refine x_newq hx hb hown (hts _ (xchk_in w1)) (hNw _ (xchk_in w2)) had hR hse hS w3 (by omega) (fun cA h => xRA_obj (hK.2 t0 _ ht0).2 h) (xin_toInt hn0') (by omega) hcc hss hf fun H1 hR1 hS1 => ?_
    have := k H1 locs ls hR1 hS1 hl
    dsimp only at this
    rw [show mNc (xnew M (15 + q.1, n.toNatClampNeg) n.toNatClampNeg) = mNc M + 1 from rfl, show mNs (xnew M (15 + q.1, n.toNatClampNeg) n.toNatClampNeg) = mNs M + n.toNatClampNeg from rfl, show mNc M + 1 - c0 = mNc M - c0 + 1 by omega, show mNs M + n.toNatClampNeg - n0 = mNs M - n0 + n.toNatClampNeg by omega] at this
    exact this
  | new i =>
    simp only [xstepC] at h
    replace h := u_if h
    obtain ⟨⟨rfl, hse⟩, h⟩ := h
    replace h := Option.bind_eq_some_iff.mp h
    obtain ⟨q, hq, h⟩ := h
    cases h
    have h0 := xall (P := xnwP) xnw_all xnw_b (xfind_mem hq)
    unfold xnwP at h0
    simp only [Bool.and_eq_true, decide_eq_true_eq] at h0
    obtain ⟨⟨⟨w1, w2⟩, w3⟩, w4⟩ := h0
    have cr : mNc M + 1 - c0 ≤ R.cells := hcr
    have sr : mNs M + (xfk q.1).length - n0 ≤ R.slots := hsr
    refine x_new hx hb w4 hts (xlays_in w4) hown (hts _ (xchk_in w1)) (hts _ (xchk_in w2)) (hts _ (xchk_in w3)) hK had hR hse hS (show mNc M - c0 + 1 ≤ R.cells by omega) (show mNs M - n0 + (xfk q.1).length ≤ R.slots by omega) hf fun H1 hR1 hS1 => ?_
    have := k H1 locs ls hR1 hS1 hl
    dsimp only at this
    rw [show mNc (xnew M (4 + q.1, 0) (xfk q.1).length) = mNc M + 1 from rfl, show mNs (xnew M (4 + q.1, 0) (xfk q.1).length) = mNs M + (xfk q.1).length from rfl, show mNc M + 1 - c0 = mNc M - c0 + 1 by omega, show mNs M + (xfk q.1).length - n0 = mNs M - n0 + (xfk q.1).length by omega] at this
    exact this
  | invokestatic i =>
    simp only [xstepC] at h
    replace h := u_if h
    obtain ⟨⟨rfl, ho, rfl⟩, h⟩ := h
    match st, h with
    | .int n :: .int dp :: .ref a :: .int sp :: .ref b :: r, h =>
      replace h := u_if h
      obtain ⟨⟨ha2, ha, hb2, hb3, hab, hsa, hsb, n1, n2, n3, n4, n5, n6, n7⟩, h⟩ := h
      cases h
      obtain ⟨t0, ht0⟩ := xtys_at (dA := dA) (k := 3) (by decide)
      have hat := xW_get dA ad M ha2 ha
      rw [(xat_arr (dA := dA) (ad := ad) (M := M) (n := (mSh M a).2) (by rw [← hsa])).2.2.1 rfl] at hat
      have hbt := xW_get dA ad M hb2 hb3
      rw [(xat_arr (dA := dA) (ad := ad) (M := M) (n := (mSh M b).2) (by rw [← hsb])).2.2.1 rfl] at hbt
      have e6 : (List.map (fun v => v.category) (r.map (xL ad))).sum = (r.map fun v => v.category).sum := by
        congr 1
        rw [List.map_map]
        exact List.map_congr_left fun v _ => xL_cat ad v
      have e7 : (List.map (fun v => v.category) (r.map (xL ad))).sum + (nativeFrameWords "java/lang/System" "arraycopy" 5 + 11) ≤ R.locals := by
        rw [e6]
        have : nativeFrameWords "java/lang/System" "arraycopy" 5 = 7 := by decide +kernel
        omega
      refine x_copy (q0 := b - 2) (q1 := a - 2) hx hb (by rw [hml]; exact hl.1.symm) hown (by rw [ho]; exact hts _ xk_cpyL) (hts _ xk_cpyN) (hts _ xk_cpyS) (hts _ xk_cpyI) hK hP hD hS hbt hat ht0 n2 n3 n1 n4 n5 (fun i hi => List.all_eq_true.mp n7 i (List.mem_range.mpr hi)) hfr e7 hf fun H1 locs1 z hP1 hS1 => ?_
      have hE : xwE dA ad (wC M a (va_cpy (mI M b) (mI M a) sp.toNatClampNeg dp.toNatClampNeg n.toNatClampNeg)) a = .inl (dA 3, (mSh M a).2, .inl (va_cpy (mI M b) (mI M a) sp.toNatClampNeg dp.toNatClampNeg n.toNatClampNeg)) := by
        rw [(xat_arr (dA := dA) (ad := ad) (M := wC M a (va_cpy (mI M b) (mI M a) sp.toNatClampNeg dp.toNatClampNeg n.toNatClampNeg)) (a := a) (n := (mSh M a).2) (k := 3) (by show mSh M a = _; rw [← hsa])).2.2.1 rfl]
        rw [show mI (wC M a (va_cpy (mI M b) (mI M a) sp.toNatClampNeg dp.toNatClampNeg n.toNatClampNeg)) a = _ from up1_eq]
      exact k H1 locs1 ls (xRel_set (M := M) ha2 rfl rfl hE (fun q hq => xwE_eq rfl (up1_ne hq) rfl rfl) hP1 h2 (hszS H1 z) hkk) hS1 hl
    | [], h => simp at h
    | [_], h => simp at h
  | _ => simp [xstepC] at h
end XC
