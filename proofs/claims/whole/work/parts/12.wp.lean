/-! ===== the made memory, and what a place in the code wants (wp) ===== -/
theorem xsC_lift {S : Option (Nat × (Nat → Int32))} {ins : Instr} {len mi pc : Nat} {l : List (Nat × Value)} {st : List Value} {M : xM} {F : xF} (h : xstepC none ins len mi pc l st M = some F) : xstepC S ins len mi pc l st M = some F := by
  cases ins with
  | iaload =>
    simp only [xstepC] at h ⊢
    obtain ⟨h0, h⟩ := u_if h
    obtain ⟨a, j, r, e, h⟩ := u_AI h
    rw [if_pos h0, e]
    show (if _ then _ else _) = _
    split at h
    · cases h
    · next hz => rw [if_neg hz]; exact h
  | arraylength =>
    simp only [xstepC] at h ⊢
    obtain ⟨h0, h⟩ := u_if h
    obtain ⟨a, r, e, h⟩ := u_1A h
    rw [if_pos h0, e]
    show (if _ then _ else _) = _
    split at h
    · cases h
    · next hz => rw [if_neg hz]; exact h
  | _ => exact h
theorem xs_lift {S : Option (Nat × (Nat → Int32))} {ins : Instr} {len mi pc : Nat} {l : List (Nat × Value)} {st : List Value} {M : xM} {F : xF} (h : xstep none ins len mi pc l st M = some F) : xstep S ins len mi pc l st M = some F := by
  unfold xstep at h ⊢
  revert h
  cases ((((xstepA ins len mi pc l st).or (xstepB ins len pc l st)).or (xstepO ins len mi pc l st)).map fun q => (q.1, q.2.1, q.2.2, M) : Option xF) with
  | none => intro h; exact xsC_lift h
  | some q => intro h; exact h
theorem xrun_fuel (S : Option (Nat × (Nat → Int32))) : ∀ (n mi pc : Nat) (l : List (Nat × Value)) (st : List Value) (M : xM) (o : xO), xrun S n mi pc l st M = some o → ∀ k, n ≤ k → xrun S k mi pc l st M = some o := by
  intro n
  induction n with
  | zero => intro mi pc l st M o h; cases h
  | succ n ih =>
    intro mi pc l st M o h k hk
    obtain ⟨k, rfl⟩ : ∃ j, k = j + 1 := ⟨k - 1, by omega⟩
    have hk' : n ≤ k := by omega
    unfold xrun at h ⊢
    dsimp only at h ⊢
    generalize xsl mi pc M = M at h ⊢
    split at h
    · cases h
    · next ins len hf =>
      (try rw [hf])
      (try dsimp only)
      split at h
      · next e he => (try rw [he]); exact h
      · next he =>
        (try rw [he])
        (try dsimp only)
        split at h
        · next v hv => (try rw [hv]); exact h
        · next hv =>
          (try rw [hv])
          (try dsimp only)
          split at h
          · next F hF => (try rw [hF]); exact ih _ _ _ _ _ _ h k hk'
          · next hF =>
            (try rw [hF])
            (try dsimp only)
            split at h
            · cases h
            · next q hq =>
              (try rw [hq])
              (try dsimp only)
              obtain ⟨h0, h⟩ := u_if h
              rw [if_pos h0]
              split at h
              · cases h
              · next v M' hr => rw [ih _ _ _ _ _ _ hr k hk']; exact ih _ _ _ _ _ _ h k hk'
              · next e M' hr =>
                rw [ih _ _ _ _ _ _ hr k hk']
                (try dsimp only)
                obtain ⟨h1, h⟩ := u_if h
                rw [if_pos h1]
                split at h
                · next hh => (try rw [hh]); exact h
                · next hd tl hh =>
                  (try rw [hh])
                  (try dsimp only)
                  split at h
                  · cases h
                  · next hp hx =>
                    (try rw [hx])
                    (try dsimp only)
                    split at h
                    · cases h
                    · next c hc => (try rw [hc]); exact ih _ _ _ _ _ _ h k hk'
theorem xs_same {S : Option (Nat × (Nat → Int32))} {ins : Instr} {len mi pc : Nat} {l : List (Nat × Value)} {st : List Value} {M : xM} {q : Nat × List Value × List Value × Bool} (h : xcall ins len mi st M = some q) : xstep S ins len mi pc l st M = xstep none ins len mi pc l st M := by
  cases ins <;> first | rfl | cases h
theorem xrun_lift (S : Option (Nat × (Nat → Int32))) : ∀ (n mi pc : Nat) (l : List (Nat × Value)) (st : List Value) (M : xM) (o : xO), xrun none n mi pc l st M = some o → xrun S n mi pc l st M = some o := by
  intro n
  induction n with
  | zero => intro mi pc l st M o h; cases h
  | succ n ih =>
    intro mi pc l st M o h
    unfold xrun at h ⊢
    dsimp only at h ⊢
    generalize xsl mi pc M = M at h ⊢
    split at h
    · cases h
    · next ins len hf =>
      (try rw [hf])
      (try dsimp only)
      split at h
      · next e he => (try rw [he]); exact h
      · next he =>
        (try rw [he])
        (try dsimp only)
        split at h
        · next v hv => (try rw [hv]); exact h
        · next hv =>
          (try rw [hv])
          (try dsimp only)
          split at h
          · next F hF => rw [xs_lift hF]; exact ih _ _ _ _ _ _ h
          · next hF =>
            split at h
            · cases h
            · next q hq =>
              rw [xs_same (S := S) hq, hF]
              (try rw [hq])
              (try dsimp only)
              obtain ⟨h0, h⟩ := u_if h
              rw [if_pos h0]
              split at h
              · cases h
              · next v M' hr => rw [ih _ _ _ _ _ _ hr]; exact ih _ _ _ _ _ _ h
              · next e M' hr =>
                rw [ih _ _ _ _ _ _ hr]
                (try dsimp only)
                obtain ⟨h1, h⟩ := u_if h
                rw [if_pos h1]
                split at h
                · next hh => (try rw [hh]); exact h
                · next hd tl hh =>
                  (try rw [hh])
                  (try dsimp only)
                  split at h
                  · cases h
                  · next hp hx =>
                    (try rw [hx])
                    (try dsimp only)
                    split at h
                    · cases h
                    · next c hc => (try rw [hc]); exact ih _ _ _ _ _ _ h
/-! ===== the constructors, run by the kernel ===== -/
def zRun (o : Option xO) : xM := match o with | some (.inl none, M) => M | _ => xM0
def zOk (o : Option xO) : Bool := match o with | some (.inl none, _) => true | _ => false
theorem zRun_ok {o : Option xO} (h : zOk o = true) : o = some (.inl none, zRun o) := by
  unfold zOk at h
  unfold zRun
  split at h
  · rfl
  · cases h
def zoa : Option xO := xrun none 600 0 0 [(0, .ref 2)] [] (xnew xM0 (13, 0) 13)
def zob : Option xO := xrun none 600 176 0 [(0, .ref (mNx (zRun zoa)))] [] (xnew (zRun zoa) (14, 0) 30)
def zMe : xM := xnew (zRun zob) (2, 1) 1
