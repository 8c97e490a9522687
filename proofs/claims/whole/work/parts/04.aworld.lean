/-! ===== the memory of numbers in the machine's heap ===== -/
def xL (ad : Nat → Nat) : Value → Value
  | .ref a => .ref (ad a)
  | v => v
theorem xL_cat (ad : Nat → Nat) (v : Value) : (xL ad v).category = v.category := by cases v <;> rfl
def xLl (ad : Nat → Nat) (l : List (Nat × Value)) : List (Nat × Value) := l.map fun q => (q.1, xL ad q.2)
theorem xLl_cons (ad : Nat → Nat) (i : Nat) (v : Value) (l : List (Nat × Value)) : xLl ad ((i, v) :: l) = (i, xL ad v) :: xLl ad l := rfl
theorem xins_mem {l : List (Nat × Value)} {i : Nat} {v : Value} {q : Nat × Value} (h : q ∈ xins l i v) : q = (i, v) ∨ q ∈ l := by
  induction l with
  | nil => exact Or.inl (List.mem_singleton.mp h)
  | cons a r ih =>
    unfold xins at h
    split at h
    · rcases List.mem_cons.mp h with h | h
      · exact Or.inl h
      · exact Or.inr h
    · rcases List.mem_cons.mp h with h | h
      · exact Or.inr (h ▸ List.mem_cons_self)
      · rcases ih h with h | h
        · exact Or.inl h
        · exact Or.inr (List.mem_cons_of_mem _ h)
theorem xhas_ins {ad : Nat → Nat} {ls : Array Slot} {nL : Nat} {l : List (Nat × Value)} {i : Nat} {v : Value} (h : lv_has ls nL ((i, xL ad v) :: xLl ad l)) : lv_has ls nL (xLl ad (xins l i v)) := by
  refine ⟨h.1, h.2.1, fun q hq => h.2.2 q ?_⟩
  obtain ⟨z, hz, rfl⟩ := List.mem_map.mp hq
  rcases xins_mem hz with rfl | hz
  · exact List.mem_cons_self
  · exact List.mem_cons_of_mem _ (List.mem_map.mpr ⟨z, hz, rfl⟩)
theorem xhas_set1 {ad : Nat → Nat} {ls : Array Slot} {nL : Nat} {l : List (Nat × Value)} {i : Nat} {v : Value} (h : lv_has ls nL ((i, xL ad v) :: (xLl ad l).filter (fun q => !(q.1 == i) && !(q.1 + 1 == i && q.2.category == 2)))) : lv_has ls nL (xLl ad (xset1 l i v)) := by
  refine xhas_ins ?_
  have e : xLl ad (l.filter (fun q => !(q.1 == i) && !(q.1 + 1 == i && q.2.category == 2))) = (xLl ad l).filter (fun q => !(q.1 == i) && !(q.1 + 1 == i && q.2.category == 2)) := by
    unfold xLl
    rw [List.filter_map]
    congr 1
    refine List.filter_congr fun q _ => ?_
    simp only [Function.comp, xL_cat]
  rw [e]
  exact h
theorem xhas_set2 {ad : Nat → Nat} {ls : Array Slot} {nL : Nat} {l : List (Nat × Value)} {i : Nat} {v : Value} (h : lv_has ls nL ((i, xL ad v) :: (xLl ad l).filter (fun q => !(q.1 == i) && (!(q.1 == i + 1) && !(q.1 + 1 == i && q.2.category == 2))))) : lv_has ls nL (xLl ad (xset2 l i v)) := by
  refine xhas_ins ?_
  have e : xLl ad (l.filter (fun q => !(q.1 == i) && (!(q.1 == i + 1) && !(q.1 + 1 == i && q.2.category == 2)))) = (xLl ad l).filter (fun q => !(q.1 == i) && (!(q.1 == i + 1) && !(q.1 + 1 == i && q.2.category == 2))) := by
    unfold xLl
    rw [List.filter_map]
    congr 1
    refine List.filter_congr fun q _ => ?_
    simp only [Function.comp, xL_cat]
  rw [e]
  exact h
theorem xhas_filter {ad : Nat → Nat} {ls : Array Slot} {nL : Nat} {l : List (Nat × Value)} {f : Nat × Value → Bool} (h : lv_has ls nL (xLl ad l)) : lv_has ls nL (xLl ad (l.filter f)) := by
  refine ⟨h.1, h.2.1, fun q hq => h.2.2 q ?_⟩
  obtain ⟨z, hz, rfl⟩ := List.mem_map.mp hq
  exact List.mem_map.mpr ⟨z, (List.mem_filter.mp hz).1, rfl⟩
theorem xLl_drop1 (ad : Nat → Nat) (l : List (Nat × Value)) (i : Nat) : xLl ad (l.filter (fun q => !(q.1 == i) && !(q.1 + 1 == i && q.2.category == 2))) = (xLl ad l).filter (fun q => !(q.1 == i) && !(q.1 + 1 == i && q.2.category == 2)) := by
  unfold xLl
  rw [List.filter_map]
  congr 1
  refine List.filter_congr fun q _ => ?_
  simp only [Function.comp, xL_cat]
theorem xget_mem {l : List (Nat × Value)} {i : Nat} {v : Value} (h : xget l i = some v) : (i, v) ∈ l := by
  induction l with
  | nil => simp [xget] at h
  | cons q r ih =>
    unfold xget at h
    split at h
    · next hq => cases h; exact List.mem_cons.mpr (Or.inl (by rw [← hq]))
    · exact List.mem_cons_of_mem _ (ih h)
theorem xat {ad : Nat → Nat} {ls : Array Slot} {nL : Nat} {l : List (Nat × Value)} (hl : lv_has ls nL (xLl ad l)) {i : Nat} {v : Value} (h : xget l i = some v) : ls[i]? = some (.val (xL ad v)) :=
  hl.2.2 (i, xL ad v) (List.mem_map.mpr ⟨(i, v), xget_mem h, rfl⟩)
theorem xgI_get {l : List (Nat × Value)} {i : Nat} {x : Int32} (h : xgI l i = some x) : xget l i = some (.int x) := by
  unfold xgI at h
  split at h
  · next e => cases h; exact e
  · cases h
theorem xgL_get {l : List (Nat × Value)} {i : Nat} {x : Int64} (h : xgL l i = some x) : xget l i = some (.long x) := by
  unfold xgL at h
  split at h
  · next e => cases h; exact e
  · cases h
theorem xgR_get {l : List (Nat × Value)} {i : Nat} {x : Option Nat} (h : xgR l i = some x) : xget l i = some (xrv x) := by
  unfold xgR at h
  split at h
  · next e => cases h; exact e
  · next e => cases h; exact e
  · cases h
/-! operands -/
theorem u_if {α : Type} {P : Prop} [Decidable P] {o : Option α} {F : α} (h : (if P then o else none) = some F) : P ∧ o = some F := by
  by_cases hP : P
  · rw [if_pos hP] at h; exact ⟨hP, h⟩
  · rw [if_neg hP] at h; cases h
theorem u_1I {α : Type} {st : List Value} {f : Int32 → List Value → Option α} {F : α} (h : o1I st f = some F) : ∃ x r, st = .int x :: r ∧ f x r = some F := by
  unfold o1I at h; split at h
  · exact ⟨_, _, rfl, h⟩
  · cases h
theorem u_1L {α : Type} {st : List Value} {f : Int64 → List Value → Option α} {F : α} (h : o1L st f = some F) : ∃ x r, st = .long x :: r ∧ f x r = some F := by
  unfold o1L at h; split at h
  · exact ⟨_, _, rfl, h⟩
  · cases h
theorem u_1A {α : Type} {st : List Value} {f : Nat → List Value → Option α} {F : α} (h : o1A st f = some F) : ∃ (x : Nat) (r : List Value), st = .ref x :: r ∧ f x r = some F := by
  unfold o1A at h; split at h
  · exact ⟨_, _, rfl, h⟩
  · cases h
theorem u_1R {α : Type} {st : List Value} {f : Option Nat → List Value → Option α} {F : α} (h : o1R st f = some F) : ∃ x r, st = xrv x :: r ∧ f x r = some F := by
  unfold o1R at h; split at h
  · exact ⟨some _, _, rfl, h⟩
  · exact ⟨none, _, rfl, h⟩
  · cases h
theorem u_2I {α : Type} {st : List Value} {f : Int32 → Int32 → List Value → Option α} {F : α} (h : o2I st f = some F) : ∃ x y r, st = .int y :: .int x :: r ∧ f x y r = some F := by
  unfold o2I at h; split at h
  · exact ⟨_, _, _, rfl, h⟩
  · cases h
theorem u_2L {α : Type} {st : List Value} {f : Int64 → Int64 → List Value → Option α} {F : α} (h : o2L st f = some F) : ∃ x y r, st = .long y :: .long x :: r ∧ f x y r = some F := by
  unfold o2L at h; split at h
  · exact ⟨_, _, _, rfl, h⟩
  · cases h
theorem u_LI {α : Type} {st : List Value} {f : Int64 → Int32 → List Value → Option α} {F : α} (h : oLI st f = some F) : ∃ x y r, st = .int y :: .long x :: r ∧ f x y r = some F := by
  unfold oLI at h; split at h
  · exact ⟨_, _, _, rfl, h⟩
  · cases h
theorem u_AI {α : Type} {st : List Value} {f : Nat → Int32 → List Value → Option α} {F : α} (h : oAI st f = some F) : ∃ (a : Nat) (j : Int32) (r : List Value), st = .int j :: .ref a :: r ∧ f a j r = some F := by
  unfold oAI at h; split at h
  · exact ⟨_, _, _, rfl, h⟩
  · cases h
theorem u_AII {α : Type} {st : List Value} {f : Nat → Int32 → Int32 → List Value → Option α} {F : α} (h : oAII st f = some F) : ∃ (a : Nat) (j x : Int32) (r : List Value), st = .int x :: .int j :: .ref a :: r ∧ f a j x r = some F := by
  unfold oAII at h; split at h
  · exact ⟨_, _, _, _, rfl, h⟩
  · cases h
theorem u_AIL {α : Type} {st : List Value} {f : Nat → Int32 → Int64 → List Value → Option α} {F : α} (h : oAIL st f = some F) : ∃ (a : Nat) (j : Int32) (x : Int64) (r : List Value), st = .long x :: .int j :: .ref a :: r ∧ f a j x r = some F := by
  unfold oAIL at h; split at h
  · exact ⟨_, _, _, _, rfl, h⟩
  · cases h
theorem u_AIA {α : Type} {st : List Value} {f : Nat → Int32 → Nat → List Value → Option α} {F : α} (h : oAIA st f = some F) : ∃ (a : Nat) (j : Int32) (x : Nat) (r : List Value), st = .ref x :: .int j :: .ref a :: r ∧ f a j x r = some F := by
  unfold oAIA at h; split at h
  · exact ⟨_, _, _, _, rfl, h⟩
  · cases h
theorem u_jump {α : Type} {pc : Nat} {off : Int} {f : Nat → Option α} {F : α} (h : xjump pc off f = some F) : ∃ t : Nat, (pc : Int) + off = (t : Int) ∧ f t = some F := by
  unfold xjump at h
  obtain ⟨h1, h2⟩ := u_if h
  exact ⟨_, (Int.toNat_of_nonneg h1).symm, h2⟩
/-! the world -/
def xkinds : List Nat := [1, 2, 3, 16, 19, 20, 21]
def xaty (k : Nat) : FieldType := if k = 1 then .int else if k = 2 then .long else if k = 3 then .byte else .object (xclsN (k - 15))
def xtys (dA : Nat → ClassId) : List (ClassId × FieldType) := xkinds.map fun k => (dA k, xaty k)
def xfs (ad : Nat → Nat) (M : xM) (c a : Nat) : List Value := (List.range (xfk c).length).map fun k => xL ad ((xfld M c a k).getD .null)
def xwE (dA : Nat → ClassId) (ad : Nat → Nat) (M : xM) (a : Nat) : va_E :=
  if (mSh M a).1 = 1 then .inl (dA 1, (mSh M a).2, .inl (mI M a))
  else if (mSh M a).1 = 2 then .inl (dA 2, (mSh M a).2, .inr (.inl (mL M a)))
  else if (mSh M a).1 = 3 then .inl (dA 3, (mSh M a).2, .inl (mI M a))
  else if 15 ≤ (mSh M a).1 then .inl (dA (mSh M a).1, (mSh M a).2, .inr (.inr (.inr (.inr (fun j => (mR M a j).map ad)))))
  else .inr ((mSh M a).1 - 4, xfs ad M ((mSh M a).1 - 4) a)
def xW (dA : Nat → ClassId) (ad : Nat → Nat) (M : xM) : va_W := (List.range (mNx M - 2)).map fun j => (ad (j + 2), xwE dA ad M (j + 2))
/-- the addresses: apart; the first two lie ahead of all others, which may be written -/
def xAd (ad : Nat → Nat) (A : Nat → Prop) : Prop := (∀ i j, ad i = ad j → i = j) ∧ (∀ i, 2 ≤ i → A (ad i)) ∧ ¬ A (ad 0) ∧ ¬ A (ad 1) ∧ ∀ i, 2 ≤ i → ad (i + 1) = ad i + 1
def xRel (D : va_G) (dA : Nat → ClassId) (ad : Nat → Nat) (M : xM) (H : Heap) : Prop :=
  va_P D vwCl (xW dA ad M) H ∧ 2 ≤ mNx M ∧ (mSe M = false → H.size = ad (mNx M)) ∧ ∀ a, 2 ≤ a → a < mNx M → ((mSh M a).1 ∈ xkinds ∨ (4 ≤ (mSh M a).1 ∧ (mSh M a).1 < 15))
theorem xW_get (dA : Nat → ClassId) (ad : Nat → Nat) (M : xM) {a : Nat} (h2 : 2 ≤ a) (h : a < mNx M) : (xW dA ad M)[a - 2]? = some (ad a, xwE dA ad M a) := by
  unfold xW
  rw [List.getElem?_map, List.getElem?_range (by omega)]
  simp only [Option.map_some, Nat.sub_add_cancel h2]
theorem xW_D {dA : Nat → ClassId} {ad : Nat → Nat} {M : xM} {A : Nat → Prop} (h : xAd ad A) : va_D A (xW dA ad M) := by
  obtain ⟨h1, h2, -⟩ := h
  unfold xW
  refine ⟨fun i j p q hp hq he => ?_, fun k q hq => ?_⟩
  · rw [List.getElem?_map] at hp hq
    have hi := (List.getElem?_eq_some_iff.mp (show ((List.range (mNx M - 2)).map _)[i]? = some p by rw [List.getElem?_map]; exact hp)).1
    have hj := (List.getElem?_eq_some_iff.mp (show ((List.range (mNx M - 2)).map _)[j]? = some q by rw [List.getElem?_map]; exact hq)).1
    rw [List.length_map, List.length_range] at hi hj
    rw [List.getElem?_range hi] at hp
    rw [List.getElem?_range hj] at hq
    cases hp; cases hq
    have := h1 _ _ he
    omega
  · have hk := (List.getElem?_eq_some_iff.mp hq).1
    rw [List.length_map, List.length_range] at hk
    rw [List.getElem?_map, List.getElem?_range hk] at hq
    cases hq
    exact h2 _ (by omega)
theorem xW_set {dA : Nat → ClassId} {ad : Nat → Nat} {M M' : xM} {a : Nat} {e : va_E} (h2 : 2 ≤ a) (hn : mNx M' = mNx M) (he : xwE dA ad M' a = e) (ho : ∀ b, b ≠ a → xwE dA ad M' b = xwE dA ad M b) : (xW dA ad M).set (a - 2) (ad a, e) = xW dA ad M' := by
  unfold xW
  rw [hn]
  apply List.ext_getElem?
  intro i
  rw [List.getElem?_set]
  by_cases hi : i < mNx M - 2
  · rw [List.getElem?_map, List.getElem?_map, List.getElem?_range hi]
    simp only [Option.map_some, List.length_map, List.length_range]
    by_cases hia : a - 2 = i
    · have : i + 2 = a := by omega
      rw [if_pos hia, if_pos (by omega), this, he]
    · rw [if_neg hia, ho (i + 2) (by omega)]
  · have h1 : ((List.range (mNx M - 2)).map fun j => (ad (j + 2), xwE dA ad M' (j + 2)))[i]? = none := by
      apply List.getElem?_eq_none
      simp; omega
    have h3 : ((List.range (mNx M - 2)).map fun j => (ad (j + 2), xwE dA ad M (j + 2)))[i]? = none := by
      apply List.getElem?_eq_none
      simp; omega
    rw [h1, h3]
    split
    · split
      · exfalso; simp at *; omega
      · rfl
    · rfl
theorem xin_vp {j : Int32} {n : Nat} (h : xin j n = true) : vp_in j n := by
  unfold xin at h
  rw [Bool.and_eq_true, decide_eq_true_eq, decide_eq_true_eq] at h
  exact vp_in_iff.mpr h
theorem xtys_at {dA : Nat → ClassId} {k : Nat} (h : k ∈ xkinds) : ∃ t0 : Nat, (xtys dA)[t0]? = some (dA k, xaty k) := by
  obtain ⟨t0, ht⟩ := List.getElem?_of_mem h
  exact ⟨t0, by unfold xtys; rw [List.getElem?_map, ht]; rfl⟩
theorem xfs_at {ad : Nat → Nat} {M : xM} {c a k : Nat} {v : Value} (h : xfld M c a k = some v) : (xfs ad M c a)[k]? = some (xL ad v) := by
  have hk : k < (xfk c).length := by
    rcases Nat.lt_or_ge k (xfk c).length with q | q
    · exact q
    · exfalso
      unfold xfld at h
      rw [List.getElem?_eq_none q] at h
      cases h
  unfold xfs
  rw [List.getElem?_map, List.getElem?_range hk]
  show some (xL ad ((xfld M c a k).getD .null)) = _
  rw [h]
  rfl
theorem xclass {c : Nat} (h : c < 11) : ∃ T, vwCl[c]? = some (xclsN c, T, (xfk c).length) := by
  match c, h with
  | 0, _ => exact ⟨_, rfl⟩
  | 1, _ => exact ⟨_, rfl⟩
  | 2, _ => exact ⟨_, rfl⟩
  | 3, _ => exact ⟨_, rfl⟩
  | 4, _ => exact ⟨_, rfl⟩
  | 5, _ => exact ⟨_, rfl⟩
  | 6, _ => exact ⟨_, rfl⟩
  | 7, _ => exact ⟨_, rfl⟩
  | 8, _ => exact ⟨_, rfl⟩
  | 9, _ => exact ⟨_, rfl⟩
  | 10, _ => exact ⟨_, rfl⟩
/-! the words, all of them, in a form that travels -/
def kxOk (w : Cond) : Bool := goodWord w || (match w with | .castable .. => true | .methodLinkNest .. => true | .declares _ => true | .arrayOver (.object _) => true | _ => false)
def kxT : List Cond := lw_tbl.filter kxOk
theorem kx_use {w : Cond} {s : State} (h : va_Nw w s) (hk : kxOk w = true) (args : Array Value) : w.before args s = true := by
  unfold kxOk at hk
  rw [Bool.or_eq_true] at hk
  rcases hk with hk | hk
  · exact word_at (State.WarmedH.refl s) (good_of_word hk) h
  · split at hk
    · exact va_Nw.use rfl h
    · exact va_Nw.use rfl h
    · exact va_Nw.use rfl h
    · exact h
    · cases hk
theorem kx_moved {w : Cond} {s U : State} (hW : s.WarmedH U.vm) (hk : kxOk w = true) (h : va_Nw w s) : va_Nw w U := by
  unfold kxOk at hk
  rw [Bool.or_eq_true] at hk
  rcases hk with hk | hk
  · exact word_at hW (good_of_word hk) h
  · split at hk
    · exact va_Nw.warmC hW h
    · exact va_Nw.warmM hW h
    · exact va_Nw.warmD hW h
    · exact va_AO.moved hW.alike h
    · cases hk
/-- what holds of the machine's tables and of what nobody writes, at the start of a method -/
def xKK (D : va_G) (dA : Nat → ClassId) (ad : Nat → Nat) (A : Nat → Prop) (S : Nat × (Nat → Int32)) (U : State) : Prop :=
  va_K D vwCl (xtys dA) U ∧ (∀ w ∈ kxT, va_Nw w U) ∧ (va_X (ad 0) S.1 S.2 U U.heap ∧ ad 0 < U.heap.size) ∧ va_T .int (ad 1) 8 (fun j => .int (xtab j)) A U U.heap ∧
  va_Z "RecordLayouts" "PLAIN_BYTES" "[I" (.ref (ad 1)) A U U.heap ∧ vx_Zq Bundle.tN "UNASSIGNED_STACK" Bundle.steD A U U.heap ∧ vx_Zq Bundle.tN "SUPPRESSED_SENTINEL" Bundle.listD A U U.heap ∧
  (∀ t ∈ xth, ∃ sa, vk_R RX9 t.2.2.2.2.2.1 t.2.2.2.2.2.2.2 sa U) ∧ (∀ i j, i < 3 → j < 3 → i ≠ j → va_Nc (xen i) (xen j) U) ∧ ∀ q, U.heap.size ≤ q → A q
theorem xKK.moved {D : va_G} {dA : Nat → ClassId} {ad : Nat → Nat} {A : Nat → Prop} {S : Nat × (Nat → Int32)} {s U : State} {locs : List Loc} (had : xAd ad A) (h : xKK D dA ad A S s) (hW : s.WarmedH U.vm) (hS : va_S A s.heap U.heap locs) : xKK D dA ad A S U := by
  obtain ⟨h1, h2, ⟨h3, h3'⟩, h4, h5, h6, h7, h8, h9, h10⟩ := h
  obtain ⟨-, -, n0, n1, -⟩ := had
  refine ⟨va_K.moved hW.alike h1, fun w hw => kx_moved hW (List.mem_filter.mp hw).2 (h2 w hw), ⟨(h3.moved hW.alike).kept (hS.2.1 _ h3' n0), Nat.lt_of_lt_of_le h3' hS.1⟩, (va_T.moved hW.alike h4).kept (fun a ha hA => hS.2.1 a ha hA), ?_, ?_, ?_, fun t ht => ?_, fun i j hi hj hne => va_Nc.moved hW.alike (h9 i j hi hj hne), fun q hq => h10 q (Nat.le_trans hS.1 hq)⟩
  · exact (va_Z.moved hW.alike h5).kept (fun a ha hA => hS.2.1 a ha hA)
  · exact (vx_Zq.moved hW.alike h6).kept (fun a ha hA => hS.2.1 a ha hA)
  · exact (vx_Zq.moved hW.alike h7).kept (fun a ha hA => hS.2.1 a ha hA)
  · obtain ⟨sa, hsa⟩ := h8 t ht
    exact ⟨sa, vk_R.warm hW hsa⟩
