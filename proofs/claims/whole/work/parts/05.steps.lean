/-! ===== the machine does what the reader reads: instructions on locals and operands ===== -/
/-- the machine stands in method mi -/
def xC (p : Program) (l : Launch) (R : Room) (s : State) (m : MethodId) (args : Array Value) (meth : Method) (c : Code) (D : va_G) (dA : Nat → ClassId) (ad : Nat → Nat) (A : Nat → Prop) (S : Nat × (Nat → Int32)) (mi : Nat) : Prop :=
  p.tables.exec = Jvm.exec ∧ c.code = xcode mi ∧ c.maxLocals = xnL mi ∧ s.vm.findClass (xclsN (xown mi)) = some m.cls ∧ (∀ w ∈ kxT, w.before args s = true) ∧ xKK D dA ad A S s ∧ xAd ad A ∧ meth.locks = false ∧ meth.sig.returnType = xret mi ∧ ((xnam mi).name = "<init>" → meth.name = "<init>") ∧ l.stackTraces = false ∧ (xhh mi = [] → mi ≠ 276 → ∀ x ∈ c.exceptionTable.toList, False) ∧ (xhh mi ≠ [] → c.exceptionTable.toList = tableOf (xhh mi))
/-- from a state that the reader's F is read off, the machine comes to Q -/
def xG (p : Program) (l : Launch) (e : Env) (R : Room) (s : State) (m : MethodId) (args : Array Value) (below : List Frame) (meth : Method) (c : Code) (D : va_G) (dA : Nat → ClassId) (ad : Nat → Nat) (A : Nat → Prop) (mi c0 n0 : Nat) (Q : State → Prop) (F : xF) : Prop :=
  ∀ (H : Heap) (locs : List Loc) (ls : Array Slot), xRel D dA ad F.2.2.2 H → va_S A s.heap H locs → lv_has ls (xnL mi) (xLl ad F.2.1) → W p l e R s m args below meth c H locs (mNc F.2.2.2 - c0) (mNs F.2.2.2 - n0) Q (F0 m F.1 ls (F.2.2.1.map (xL ad)))
section XS
variable {p : Program} {l : Launch} {e : Env} {R : Room} {s : State} {m : MethodId} {args : Array Value} {below : List Frame} {meth : Method} {c : Code} {D : va_G} {dA : Nat → ClassId} {ad : Nat → Nat} {A : Nat → Prop} {S : Nat × (Nat → Int32)} {mi c0 n0 : Nat} {Q : State → Prop} {pc len : Nat} {lc : List (Nat × Value)} {st : List Value} {M : xM} {F : xF3}
theorem xki_w {i : Nat} {q : Int32 × Nat} (h : xfind (xki (xown mi)) i = some q) (hts : ∀ w ∈ kxT, w.before args s = true) : (Jvm.Cond.constant (xclsN (xown mi)) i q.1).before args s = true := hts _ (xki_ok h)
theorem xkl_w {i : Nat} {q : Int64 × Nat} (h : xfind (xkl (xown mi)) i = some q) (hts : ∀ w ∈ kxT, w.before args s = true) : (Jvm.Cond.constantLong (xclsN (xown mi)) i q.1).before args s = true := hts _ (xkl_ok h)
set_option maxHeartbeats 4000000 in
theorem xsA {ins : Instr} (C : xC p l R s m args meth c D dA ad A S mi) (hf : decode (xcode mi) pc = .ok (ins, len)) (h : xstepA ins len mi pc lc st = some F) (k : xG p l e R s m args below meth c D dA ad A mi c0 n0 Q (F.1, F.2.1, F.2.2, M)) : xG p l e R s m args below meth c D dA ad A mi c0 n0 Q (pc, lc, st, M) := by
  obtain ⟨hx, hb, -, hown, hts, -⟩ := C
  intro H locs ls hR hS hl
  cases ins with
  | iconst n =>
    simp only [xstepA] at h
    replace h := u_if h
    obtain ⟨rfl, h⟩ := h
    cases h
    exact lv_iconst hx hb hf rfl (k H locs ls hR hS hl)
  | bipush n =>
    simp only [xstepA] at h
    replace h := u_if h
    obtain ⟨rfl, h⟩ := h
    cases h
    exact lv_bipush hx hb hf rfl (k H locs ls hR hS hl)
  | sipush n =>
    simp only [xstepA] at h
    replace h := u_if h
    obtain ⟨rfl, h⟩ := h
    cases h
    exact lv_sipush hx hb hf rfl (k H locs ls hR hS hl)
  | lconst n =>
    simp only [xstepA] at h
    replace h := u_if h
    obtain ⟨rfl, h⟩ := h
    cases h
    exact lv_lconst hx hb hf rfl (k H locs ls hR hS hl)
  | aconst_null =>
    simp only [xstepA] at h
    replace h := u_if h
    obtain ⟨rfl, h⟩ := h
    cases h
    exact lv_null hx hb hf (k H locs ls hR hS hl)
  | ldc i =>
    simp only [xstepA] at h
    replace h := u_if h
    obtain ⟨rfl, h⟩ := h
    replace h := Option.bind_eq_some_iff.mp h
    obtain ⟨q, hq, h⟩ := h
    cases h
    exact lv_ldc hx hb hown (xki_w hq hts) hf (k H locs ls hR hS hl)
  | ldc2_w i =>
    simp only [xstepA] at h
    replace h := u_if h
    obtain ⟨rfl, h⟩ := h
    replace h := Option.bind_eq_some_iff.mp h
    obtain ⟨q, hq, h⟩ := h
    cases h
    exact lv_ldc2 hx hb hown (xkl_w hq hts) hf (k H locs ls hR hS hl)
  | iload_n i =>
    simp only [xstepA] at h
    replace h := u_if h
    obtain ⟨rfl, h⟩ := h
    replace h := Option.bind_eq_some_iff.mp h
    obtain ⟨x, hq, h⟩ := h
    cases h
    exact lv_iload_n hx hb hf rfl (xat hl (xgI_get hq)) (k H locs ls hR hS hl)
  | iload i =>
    simp only [xstepA] at h
    replace h := u_if h
    obtain ⟨rfl, h⟩ := h
    replace h := Option.bind_eq_some_iff.mp h
    obtain ⟨x, hq, h⟩ := h
    cases h
    exact lv_iload hx hb hf (xat hl (xgI_get hq)) (k H locs ls hR hS hl)
  | lload_n i =>
    simp only [xstepA] at h
    replace h := u_if h
    obtain ⟨rfl, h⟩ := h
    replace h := Option.bind_eq_some_iff.mp h
    obtain ⟨x, hq, h⟩ := h
    cases h
    exact lv_lload_n hx hb hf rfl (xat hl (xgL_get hq)) (k H locs ls hR hS hl)
  | lload i =>
    simp only [xstepA] at h
    replace h := u_if h
    obtain ⟨rfl, h⟩ := h
    replace h := Option.bind_eq_some_iff.mp h
    obtain ⟨x, hq, h⟩ := h
    cases h
    exact lv_lload hx hb hf (xat hl (xgL_get hq)) (k H locs ls hR hS hl)
  | aload_n i =>
    simp only [xstepA] at h
    replace h := u_if h
    obtain ⟨rfl, h⟩ := h
    replace h := Option.bind_eq_some_iff.mp h
    obtain ⟨x, hq, h⟩ := h
    cases h
    cases x with
    | none => exact lv_aload_nN hx hb hf rfl (xat hl (xgR_get hq)) (k H locs ls hR hS hl)
    | some a => exact lv_aload_n hx hb hf rfl (xat hl (xgR_get hq)) (k H locs ls hR hS hl)
  | aload i =>
    simp only [xstepA] at h
    replace h := u_if h
    obtain ⟨rfl, h⟩ := h
    replace h := Option.bind_eq_some_iff.mp h
    obtain ⟨x, hq, h⟩ := h
    cases h
    cases x with
    | none => exact lv_aloadN hx hb hf (xat hl (xgR_get hq)) (k H locs ls hR hS hl)
    | some a => exact lv_aload hx hb hf (xat hl (xgR_get hq)) (k H locs ls hR hS hl)
  | istore_n i =>
    simp only [xstepA] at h
    replace h := u_if h
    obtain ⟨⟨rfl, hn⟩, h⟩ := h
    replace h := u_1I h
    obtain ⟨x, r, rfl, h⟩ := h
    cases h
    exact lv_istore_n hx hb hf rfl hl hn rfl (fun ls hl => k H locs ls hR hS (xhas_set1 (v := .int x) hl))
  | istore i =>
    simp only [xstepA] at h
    replace h := u_if h
    obtain ⟨⟨rfl, hn⟩, h⟩ := h
    replace h := u_1I h
    obtain ⟨x, r, rfl, h⟩ := h
    cases h
    exact lv_istore hx hb hf hl hn rfl (fun ls hl => k H locs ls hR hS (xhas_set1 (v := .int x) hl))
  | lstore_n i =>
    simp only [xstepA] at h
    replace h := u_if h
    obtain ⟨⟨rfl, hn⟩, h⟩ := h
    replace h := u_1L h
    obtain ⟨x, r, rfl, h⟩ := h
    cases h
    exact lv_lstore_n hx hb hf rfl hl hn rfl (fun ls hl => k H locs ls hR hS (xhas_set2 (v := .long x) hl))
  | lstore i =>
    simp only [xstepA] at h
    replace h := u_if h
    obtain ⟨⟨rfl, hn⟩, h⟩ := h
    replace h := u_1L h
    obtain ⟨x, r, rfl, h⟩ := h
    cases h
    exact lv_lstore hx hb hf hl hn rfl (fun ls hl => k H locs ls hR hS (xhas_set2 (v := .long x) hl))
  | astore_n i =>
    simp only [xstepA] at h
    replace h := u_if h
    obtain ⟨⟨rfl, hn⟩, h⟩ := h
    replace h := u_1R h
    obtain ⟨x, r, rfl, h⟩ := h
    cases h
    cases x with
    | none => exact lv_astore_nN hx hb hf rfl hl hn rfl (fun ls hl => k H locs ls hR hS (xhas_set1 (v := xrv none) hl))
    | some a => exact lv_astore_n hx hb hf rfl hl hn rfl (fun ls hl => k H locs ls hR hS (xhas_set1 (v := xrv (some a)) hl))
  | astore i =>
    simp only [xstepA] at h
    replace h := u_if h
    obtain ⟨⟨rfl, hn⟩, h⟩ := h
    replace h := u_1R h
    obtain ⟨x, r, rfl, h⟩ := h
    cases h
    cases x with
    | none => exact lv_astoreN hx hb hf hl hn rfl (fun ls hl => k H locs ls hR hS (xhas_set1 (v := xrv none) hl))
    | some a => exact lv_astore hx hb hf hl hn rfl (fun ls hl => k H locs ls hR hS (xhas_set1 (v := xrv (some a)) hl))
  | iinc i n =>
    simp only [xstepA] at h
    replace h := u_if h
    obtain ⟨⟨rfl, hn⟩, h⟩ := h
    replace h := Option.bind_eq_some_iff.mp h
    obtain ⟨x, hq, h⟩ := h
    cases h
    obtain ⟨k0, hk0⟩ := List.getElem?_of_mem (show (i, Value.int x) ∈ xLl ad lc from List.mem_map.mpr ⟨(i, .int x), xget_mem (xgI_get hq), rfl⟩)
    exact lv_iinc hx hb hf hl hk0 rfl hn rfl (fun ls hl => k H locs ls hR hS (xhas_set1 (v := .int (x + Int32.ofInt n)) hl))
  | pop =>
    simp only [xstepA] at h
    replace h := u_if h
    obtain ⟨rfl, h⟩ := h
    cases st with
    | nil => cases h
    | cons v r =>
      replace h := u_if h
      obtain ⟨hc, h⟩ := h
      cases h
      exact lv_pop hx hb hf (by rw [xL_cat]; exact hc) (k H locs ls hR hS hl)
  | dup =>
    simp only [xstepA] at h
    replace h := u_if h
    obtain ⟨rfl, h⟩ := h
    cases st with
    | nil => cases h
    | cons v r =>
      replace h := u_if h
      obtain ⟨hc, h⟩ := h
      cases h
      exact lv_dup hx hb hf (by rw [xL_cat]; exact hc) (k H locs ls hR hS hl)
  | dup2 =>
    simp only [xstepA] at h
    replace h := u_if h
    obtain ⟨rfl, h⟩ := h
    cases st with
    | nil => cases h
    | cons v r =>
      cases r with
      | nil => cases h
      | cons w r =>
        replace h := u_if h
        obtain ⟨hc, h⟩ := h
        cases h
        exact lv_dup2_11 hx hb hf (by rw [xL_cat]; exact hc.1) (by rw [xL_cat]; exact hc.2) (k H locs ls hR hS hl)
  | _ => simp [xstepA] at h
set_option maxHeartbeats 4000000 in
theorem xsB {ins : Instr} (C : xC p l R s m args meth c D dA ad A S mi) (hf : decode (xcode mi) pc = .ok (ins, len)) (h : xstepB ins len pc lc st = some F) (k : xG p l e R s m args below meth c D dA ad A mi c0 n0 Q (F.1, F.2.1, F.2.2, M)) : xG p l e R s m args below meth c D dA ad A mi c0 n0 Q (pc, lc, st, M) := by
  obtain ⟨hx, hb, -⟩ := C
  intro H locs ls hR hS hl
  cases ins with
  | iadd =>
    simp only [xstepB] at h
    replace h := u_if h
    obtain ⟨rfl, h⟩ := h
    replace h := u_2I h
    obtain ⟨x, y, r, rfl, h⟩ := h
    cases h
    exact lv_iadd hx hb hf (k H locs ls hR hS hl)
  | isub =>
    simp only [xstepB] at h
    replace h := u_if h
    obtain ⟨rfl, h⟩ := h
    replace h := u_2I h
    obtain ⟨x, y, r, rfl, h⟩ := h
    cases h
    exact lv_isub hx hb hf (k H locs ls hR hS hl)
  | imul =>
    simp only [xstepB] at h
    replace h := u_if h
    obtain ⟨rfl, h⟩ := h
    replace h := u_2I h
    obtain ⟨x, y, r, rfl, h⟩ := h
    cases h
    exact lv_imul hx hb hf (k H locs ls hR hS hl)
  | iand =>
    simp only [xstepB] at h
    replace h := u_if h
    obtain ⟨rfl, h⟩ := h
    replace h := u_2I h
    obtain ⟨x, y, r, rfl, h⟩ := h
    cases h
    exact lv_iand hx hb hf (k H locs ls hR hS hl)
  | ior =>
    simp only [xstepB] at h
    replace h := u_if h
    obtain ⟨rfl, h⟩ := h
    replace h := u_2I h
    obtain ⟨x, y, r, rfl, h⟩ := h
    cases h
    exact lv_ior hx hb hf (k H locs ls hR hS hl)
  | ishl =>
    simp only [xstepB] at h
    replace h := u_if h
    obtain ⟨rfl, h⟩ := h
    replace h := u_2I h
    obtain ⟨x, y, r, rfl, h⟩ := h
    cases h
    exact lv_ishl hx hb hf (k H locs ls hR hS hl)
  | ishr =>
    simp only [xstepB] at h
    replace h := u_if h
    obtain ⟨rfl, h⟩ := h
    replace h := u_2I h
    obtain ⟨x, y, r, rfl, h⟩ := h
    cases h
    exact lv_ishr hx hb hf (k H locs ls hR hS hl)
  | idiv =>
    simp only [xstepB] at h
    replace h := u_if h
    obtain ⟨rfl, h⟩ := h
    replace h := u_2I h
    obtain ⟨x, y, r, rfl, h⟩ := h
    by_cases hy : y = 0
    · rw [if_pos hy] at h; cases h
    · rw [if_neg hy] at h; cases h; exact lv_idiv hx hb hf hy (k H locs ls hR hS hl)
  | irem =>
    simp only [xstepB] at h
    replace h := u_if h
    obtain ⟨rfl, h⟩ := h
    replace h := u_2I h
    obtain ⟨x, y, r, rfl, h⟩ := h
    by_cases hy : y = 0
    · rw [if_pos hy] at h; cases h
    · rw [if_neg hy] at h; cases h; exact lv_irem hx hb hf hy (k H locs ls hR hS hl)
  | ineg =>
    simp only [xstepB] at h
    replace h := u_if h
    obtain ⟨rfl, h⟩ := h
    replace h := u_1I h
    obtain ⟨x, r, rfl, h⟩ := h
    cases h
    exact lv_ineg hx hb hf (k H locs ls hR hS hl)
  | i2l =>
    simp only [xstepB] at h
    replace h := u_if h
    obtain ⟨rfl, h⟩ := h
    replace h := u_1I h
    obtain ⟨x, r, rfl, h⟩ := h
    cases h
    exact lv_i2l hx hb hf rfl (k H locs ls hR hS hl)
  | l2i =>
    simp only [xstepB] at h
    replace h := u_if h
    obtain ⟨rfl, h⟩ := h
    replace h := u_1L h
    obtain ⟨x, r, rfl, h⟩ := h
    cases h
    exact lv_l2i hx hb hf rfl (k H locs ls hR hS hl)
  | i2b =>
    simp only [xstepB] at h
    replace h := u_if h
    obtain ⟨rfl, h⟩ := h
    replace h := u_1I h
    obtain ⟨x, r, rfl, h⟩ := h
    cases h
    exact lv_i2b hx hb hf rfl (k H locs ls hR hS hl)
  | i2s =>
    simp only [xstepB] at h
    replace h := u_if h
    obtain ⟨rfl, h⟩ := h
    replace h := u_1I h
    obtain ⟨x, r, rfl, h⟩ := h
    cases h
    exact lv_i2s hx hb hf rfl (k H locs ls hR hS hl)
  | ladd =>
    simp only [xstepB] at h
    replace h := u_if h
    obtain ⟨rfl, h⟩ := h
    replace h := u_2L h
    obtain ⟨x, y, r, rfl, h⟩ := h
    cases h
    exact lv_ladd hx hb hf (k H locs ls hR hS hl)
  | lsub =>
    simp only [xstepB] at h
    replace h := u_if h
    obtain ⟨rfl, h⟩ := h
    replace h := u_2L h
    obtain ⟨x, y, r, rfl, h⟩ := h
    cases h
    exact lv_lsub hx hb hf (k H locs ls hR hS hl)
  | lmul =>
    simp only [xstepB] at h
    replace h := u_if h
    obtain ⟨rfl, h⟩ := h
    replace h := u_2L h
    obtain ⟨x, y, r, rfl, h⟩ := h
    cases h
    exact lv_lmul hx hb hf (k H locs ls hR hS hl)
  | land =>
    simp only [xstepB] at h
    replace h := u_if h
    obtain ⟨rfl, h⟩ := h
    replace h := u_2L h
    obtain ⟨x, y, r, rfl, h⟩ := h
    cases h
    exact lv_land hx hb hf (k H locs ls hR hS hl)
  | lor =>
    simp only [xstepB] at h
    replace h := u_if h
    obtain ⟨rfl, h⟩ := h
    replace h := u_2L h
    obtain ⟨x, y, r, rfl, h⟩ := h
    cases h
    exact lv_lor hx hb hf (k H locs ls hR hS hl)
  | lxor =>
    simp only [xstepB] at h
    replace h := u_if h
    obtain ⟨rfl, h⟩ := h
    replace h := u_2L h
    obtain ⟨x, y, r, rfl, h⟩ := h
    cases h
    exact lv_lxor hx hb hf (k H locs ls hR hS hl)
  | lshl =>
    simp only [xstepB] at h
    replace h := u_if h
    obtain ⟨rfl, h⟩ := h
    replace h := u_LI h
    obtain ⟨x, y, r, rfl, h⟩ := h
    cases h
    exact lv_lshl hx hb hf rfl (k H locs ls hR hS hl)
  | lshr =>
    simp only [xstepB] at h
    replace h := u_if h
    obtain ⟨rfl, h⟩ := h
    replace h := u_LI h
    obtain ⟨x, y, r, rfl, h⟩ := h
    cases h
    exact lv_lshr hx hb hf rfl (k H locs ls hR hS hl)
  | lushr =>
    simp only [xstepB] at h
    replace h := u_if h
    obtain ⟨rfl, h⟩ := h
    replace h := u_LI h
    obtain ⟨x, y, r, rfl, h⟩ := h
    cases h
    exact lv_lushr hx hb hf rfl (k H locs ls hR hS hl)
  | lcmp =>
    simp only [xstepB] at h
    replace h := u_if h
    obtain ⟨rfl, h⟩ := h
    replace h := u_2L h
    obtain ⟨x, y, r, rfl, h⟩ := h
    cases h
    exact W.lcmp hx hb hf (k H locs ls hR hS hl)
  | ifCond cd off =>
    simp only [xstepB] at h
    replace h := u_if h
    obtain ⟨rfl, h⟩ := h
    replace h := u_1I h
    obtain ⟨x, r, rfl, h⟩ := h
    cases cd with
    | eq =>
      replace h := u_jump h
      obtain ⟨t, ht, h⟩ := h
      split at h
      · next hc =>
        cases h
        simp only [xtest, decide_eq_true_eq] at hc
        exact lv_if_eq hx hb hf ht (fun _ => k H locs ls hR hS hl) (fun z => absurd hc z)
      · next hc =>
        cases h
        simp only [xtest, decide_eq_true_eq] at hc
        exact lv_if_eq hx hb hf ht (fun z => absurd z hc) (fun _ => k H locs ls hR hS hl)
    | ne =>
      replace h := u_jump h
      obtain ⟨t, ht, h⟩ := h
      split at h
      · next hc =>
        cases h
        simp only [xtest, decide_eq_true_eq] at hc
        exact lv_if_ne hx hb hf ht (fun _ => k H locs ls hR hS hl) (fun z => absurd z hc)
      · next hc =>
        cases h
        simp only [xtest, decide_eq_true_eq] at hc
        exact lv_if_ne hx hb hf ht (fun z => absurd z hc) (fun _ => k H locs ls hR hS hl)
    | lt =>
      replace h := u_jump h
      obtain ⟨t, ht, h⟩ := h
      split at h
      · next hc =>
        cases h
        simp only [xtest, decide_eq_true_eq] at hc
        exact lv_if_lt hx hb hf ht (fun _ => k H locs ls hR hS hl) (fun z => absurd hc z)
      · next hc =>
        cases h
        simp only [xtest, decide_eq_true_eq] at hc
        exact lv_if_lt hx hb hf ht (fun z => absurd z hc) (fun _ => k H locs ls hR hS hl)
    | ge =>
      replace h := u_jump h
      obtain ⟨t, ht, h⟩ := h
      split at h
      · next hc =>
        cases h
        simp only [xtest, decide_eq_true_eq] at hc
        exact lv_if_ge hx hb hf ht (fun _ => k H locs ls hR hS hl) (fun z => absurd hc z)
      · next hc =>
        cases h
        simp only [xtest, decide_eq_true_eq] at hc
        exact lv_if_ge hx hb hf ht (fun z => absurd z hc) (fun _ => k H locs ls hR hS hl)
    | gt =>
      replace h := u_jump h
      obtain ⟨t, ht, h⟩ := h
      split at h
      · next hc =>
        cases h
        simp only [xtest, decide_eq_true_eq] at hc
        exact lv_if_gt hx hb hf ht (fun _ => k H locs ls hR hS hl) (fun z => absurd hc z)
      · next hc =>
        cases h
        simp only [xtest, decide_eq_true_eq] at hc
        exact lv_if_gt hx hb hf ht (fun z => absurd z hc) (fun _ => k H locs ls hR hS hl)
    | le =>
      replace h := u_jump h
      obtain ⟨t, ht, h⟩ := h
      split at h
      · next hc =>
        cases h
        simp only [xtest, decide_eq_true_eq] at hc
        exact lv_if_le hx hb hf ht (fun _ => k H locs ls hR hS hl) (fun z => absurd hc z)
      · next hc =>
        cases h
        simp only [xtest, decide_eq_true_eq] at hc
        exact lv_if_le hx hb hf ht (fun z => absurd z hc) (fun _ => k H locs ls hR hS hl)
  | if_icmp cd off =>
    simp only [xstepB] at h
    replace h := u_if h
    obtain ⟨rfl, h⟩ := h
    replace h := u_2I h
    obtain ⟨x, y, r, rfl, h⟩ := h
    cases cd with
    | eq =>
      replace h := u_jump h
      obtain ⟨t, ht, h⟩ := h
      split at h
      · next hc =>
        cases h
        simp only [xtest, decide_eq_true_eq] at hc
        exact lv_icmp_eq hx hb hf ht (fun _ => k H locs ls hR hS hl) (fun z => absurd hc z)
      · next hc =>
        cases h
        simp only [xtest, decide_eq_true_eq] at hc
        exact lv_icmp_eq hx hb hf ht (fun z => absurd z hc) (fun _ => k H locs ls hR hS hl)
    | ne =>
      replace h := u_jump h
      obtain ⟨t, ht, h⟩ := h
      split at h
      · next hc =>
        cases h
        simp only [xtest, decide_eq_true_eq] at hc
        exact lv_icmp_ne hx hb hf ht (fun _ => k H locs ls hR hS hl) (fun z => absurd z hc)
      · next hc =>
        cases h
        simp only [xtest, decide_eq_true_eq] at hc
        exact lv_icmp_ne hx hb hf ht (fun z => absurd z hc) (fun _ => k H locs ls hR hS hl)
    | lt =>
      replace h := u_jump h
      obtain ⟨t, ht, h⟩ := h
      split at h
      · next hc =>
        cases h
        simp only [xtest, decide_eq_true_eq] at hc
        exact lv_icmp_lt hx hb hf ht (fun _ => k H locs ls hR hS hl) (fun z => absurd hc z)
      · next hc =>
        cases h
        simp only [xtest, decide_eq_true_eq] at hc
        exact lv_icmp_lt hx hb hf ht (fun z => absurd z hc) (fun _ => k H locs ls hR hS hl)
    | ge =>
      replace h := u_jump h
      obtain ⟨t, ht, h⟩ := h
      split at h
      · next hc =>
        cases h
        simp only [xtest, decide_eq_true_eq] at hc
        exact lv_icmp_ge hx hb hf ht (fun _ => k H locs ls hR hS hl) (fun z => absurd hc z)
      · next hc =>
        cases h
        simp only [xtest, decide_eq_true_eq] at hc
        exact lv_icmp_ge hx hb hf ht (fun z => absurd z hc) (fun _ => k H locs ls hR hS hl)
    | gt =>
      replace h := u_jump h
      obtain ⟨t, ht, h⟩ := h
      split at h
      · next hc =>
        cases h
        simp only [xtest, decide_eq_true_eq] at hc
        exact lv_icmp_gt hx hb hf ht (fun _ => k H locs ls hR hS hl) (fun z => absurd hc z)
      · next hc =>
        cases h
        simp only [xtest, decide_eq_true_eq] at hc
        exact lv_icmp_gt hx hb hf ht (fun z => absurd z hc) (fun _ => k H locs ls hR hS hl)
    | le =>
      replace h := u_jump h
      obtain ⟨t, ht, h⟩ := h
      split at h
      · next hc =>
        cases h
        simp only [xtest, decide_eq_true_eq] at hc
        exact lv_icmp_le hx hb hf ht (fun _ => k H locs ls hR hS hl) (fun z => absurd hc z)
      · next hc =>
        cases h
        simp only [xtest, decide_eq_true_eq] at hc
        exact lv_icmp_le hx hb hf ht (fun z => absurd z hc) (fun _ => k H locs ls hR hS hl)
  | ifnull off =>
    simp only [xstepB] at h
    replace h := u_if h
    obtain ⟨rfl, h⟩ := h
    replace h := u_1R h
    obtain ⟨x, r, rfl, h⟩ := h
    cases x with
    | none =>
      replace h := u_jump h
      obtain ⟨t, ht, h⟩ := h
      cases h
      exact lv_ifnullN hx hb hf ht (k H locs ls hR hS hl)
    | some a => cases h; exact lv_ifnull hx hb hf (k H locs ls hR hS hl)
  | ifnonnull off =>
    simp only [xstepB] at h
    replace h := u_if h
    obtain ⟨rfl, h⟩ := h
    replace h := u_1R h
    obtain ⟨x, r, rfl, h⟩ := h
    cases x with
    | some a =>
      replace h := u_jump h
      obtain ⟨t, ht, h⟩ := h
      cases h
      exact lv_ifnonnull hx hb hf ht (k H locs ls hR hS hl)
    | none => cases h; exact lv_ifnonnullN hx hb hf (k H locs ls hR hS hl)
  | goto off =>
    simp only [xstepB] at h
    replace h := u_if h
    obtain ⟨rfl, h⟩ := h
    replace h := u_jump h
    obtain ⟨t, ht, h⟩ := h
    cases h
    exact lv_goto hx hb hf ht (k H locs ls hR hS hl)
  | tableswitch d lo hi offs =>
    simp only [xstepB] at h
    replace h := u_1I h
    obtain ⟨x, r, rfl, h⟩ := h
    split at h
    · next hc =>
      replace h := u_jump h
      obtain ⟨t, ht, h⟩ := h
      cases h
      exact lv_tableOut hx hb hf hc ht (k H locs ls hR hS hl)
    · next hc =>
      replace h := Option.bind_eq_some_iff.mp h
      obtain ⟨off, ho, h⟩ := h
      replace h := u_jump h
      obtain ⟨t, ht, h⟩ := h
      cases h
      exact lv_tableIn hx hb hf (fun z => hc (Or.inl z)) (fun z => hc (Or.inr z)) ho ht (k H locs ls hR hS hl)
  | _ => simp [xstepB] at h
end XS
