/-! ===== a run of the reader is a run of the machine ===== -/
theorem xsC_mono {S : Option (Nat × (Nat → Int32))} {ins : Instr} {len mi pc : Nat} {lc : List (Nat × Value)} {st : List Value} {M : xM} {F : xF} (h : xstepC S ins len mi pc lc st M = some F) : mNc M ≤ mNc F.2.2.2 ∧ mNs M ≤ mNs F.2.2.2 := by
  have kept : ∀ M' : xM, M'.1 = M.1 → mNc M ≤ mNc M' ∧ mNs M ≤ mNs M' := fun M' e => by unfold mNc mNs; rw [e]; exact ⟨Nat.le_refl _, Nat.le_refl _⟩
  have grown : ∀ (sh : xSh) (n : Nat), mNc M ≤ mNc (xnew M sh n) ∧ mNs M ≤ mNs (xnew M sh n) := fun sh n => ⟨by show _ ≤ mNc M + 1; omega, by show _ ≤ mNs M + n; omega⟩
  cases ins with
  | getfield i =>
    simp only [xstepC] at h
    replace h := (u_if h).2
    obtain ⟨a, r, -, h⟩ := u_1A h
    obtain ⟨q, -, h⟩ := Option.bind_eq_some_iff.mp h
    replace h := (u_if h).2
    obtain ⟨v, -, h⟩ := Option.bind_eq_some_iff.mp h
    cases h
    exact kept _ rfl
  | putfield i =>
    simp only [xstepC] at h
    replace h := (u_if h).2
    match st, h with
    | v :: .ref a :: r, h =>
      obtain ⟨q, -, h⟩ := Option.bind_eq_some_iff.mp h
      replace h := (u_if h).2
      obtain ⟨M', hM', h⟩ := Option.bind_eq_some_iff.mp h
      cases h
      refine kept _ ?_
      show M'.1 = M.1
      unfold xputf at hM'
      split at hM'
      · cases hM'; rfl
      · replace hM' := (u_if hM').2; cases hM'; rfl
      · cases hM'; rfl
      · replace hM' := (u_if hM').2; cases hM'; rfl
      · replace hM' := (u_if hM').2; cases hM'; rfl
      · cases hM'
    | [], h => cases h
    | [_], h => cases h
  | iaload =>
    simp only [xstepC] at h
    replace h := (u_if h).2
    obtain ⟨a, j, r, -, h⟩ := u_AI h
    split at h
    · obtain ⟨q, -, h⟩ := Option.bind_eq_some_iff.mp h
      replace h := (u_if h).2
      cases h
      exact kept _ rfl
    · split at h
      · replace h := (u_if h).2; cases h; exact kept _ rfl
      · replace h := (u_if h).2; cases h; exact kept _ rfl
  | laload => simp only [xstepC] at h; replace h := (u_if h).2; obtain ⟨a, j, r, -, h⟩ := u_AI h; replace h := (u_if h).2; cases h; exact kept _ rfl
  | baload => simp only [xstepC] at h; replace h := (u_if h).2; obtain ⟨a, j, r, -, h⟩ := u_AI h; replace h := (u_if h).2; cases h; exact kept _ rfl
  | aaload => simp only [xstepC] at h; replace h := (u_if h).2; obtain ⟨a, j, r, -, h⟩ := u_AI h; replace h := (u_if h).2; cases h; exact kept _ rfl
  | iastore => simp only [xstepC] at h; replace h := (u_if h).2; obtain ⟨a, j, x, r, -, h⟩ := u_AII h; replace h := (u_if h).2; cases h; exact kept _ rfl
  | bastore => simp only [xstepC] at h; replace h := (u_if h).2; obtain ⟨a, j, x, r, -, h⟩ := u_AII h; replace h := (u_if h).2; cases h; exact kept _ rfl
  | lastore => simp only [xstepC] at h; replace h := (u_if h).2; obtain ⟨a, j, x, r, -, h⟩ := u_AIL h; replace h := (u_if h).2; cases h; exact kept _ rfl
  | aastore => simp only [xstepC] at h; replace h := (u_if h).2; obtain ⟨a, j, x, r, -, h⟩ := u_AIA h; replace h := (u_if h).2; cases h; exact kept _ rfl
  | arraylength =>
    simp only [xstepC] at h
    replace h := (u_if h).2
    obtain ⟨a, r, -, h⟩ := u_1A h
    split at h
    · obtain ⟨q, -, h⟩ := Option.bind_eq_some_iff.mp h; cases h; exact kept _ rfl
    · replace h := (u_if h).2; cases h; exact kept _ rfl
  | getstatic i => simp only [xstepC] at h; replace h := (u_if h).2; cases h; exact kept _ rfl
  | newarray ty =>
    simp only [xstepC] at h
    replace h := (u_if h).2
    obtain ⟨n, r, -, h⟩ := u_1I h
    replace h := (u_if h).2
    cases ty <;> first | (cases h; exact grown _ _) | cases h
  | anewarray i =>
    simp only [xstepC] at h
    replace h := (u_if h).2
    obtain ⟨n, r, -, h⟩ := u_1I h
    replace h := (u_if h).2
    obtain ⟨q, -, h⟩ := Option.bind_eq_some_iff.mp h
    cases h
    exact grown _ _
  | new i =>
    simp only [xstepC] at h
    replace h := (u_if h).2
    obtain ⟨q, -, h⟩ := Option.bind_eq_some_iff.mp h
    cases h
    exact grown _ _
  | invokestatic i =>
    simp only [xstepC] at h
    replace h := (u_if h).2
    match st, h with
    | .int n :: .int dp :: .ref a :: .int sp :: .ref b :: r, h => replace h := (u_if h).2; cases h; exact kept _ rfl
    | [], h => simp at h
    | [_], h => simp at h
  | _ => simp [xstepC] at h
theorem u_or {α : Type} {a b : Option α} {x : α} (h : a.or b = some x) : a = some x ∨ b = some x := by
  cases a with
  | none => exact Or.inr h
  | some y => exact Or.inl h
theorem xs_mono {S : Option (Nat × (Nat → Int32))} {ins : Instr} {len mi pc : Nat} {lc : List (Nat × Value)} {st : List Value} {M : xM} {F : xF} (h : xstep S ins len mi pc lc st M = some F) : mNc M ≤ mNc F.2.2.2 ∧ mNs M ≤ mNs F.2.2.2 := by
  unfold xstep at h
  rcases u_or h with h | h
  · obtain ⟨q, -, h⟩ := Option.map_eq_some_iff.mp h
    cases h
    exact ⟨Nat.le_refl _, Nat.le_refl _⟩
  · exact xsC_mono h
theorem xsl_c (mi pc : Nat) (M : xM) : mNc (xsl mi pc M) = mNc M ∧ mNs (xsl mi pc M) = mNs M := by
  unfold xsl
  split <;> exact ⟨rfl, rfl⟩
theorem xrun_mono (S : Option (Nat × (Nat → Int32))) : ∀ (n mi pc : Nat) (lc : List (Nat × Value)) (st : List Value) (M : xM) (o : xO), xrun S n mi pc lc st M = some o → mNc M ≤ mNc o.2 ∧ mNs M ≤ mNs o.2 := by
  intro n
  induction n with
  | zero => intro mi pc lc st M o h; cases h
  | succ n ih =>
    intro mi pc lc st M o h
    unfold xrun at h
    dsimp only at h
    obtain ⟨q1, q2⟩ := xsl_c mi pc M
    rw [← q1, ← q2]
    generalize xsl mi pc M = M at h ⊢
    split at h
    · cases h
    · next ins len hf =>
      split at h
      · replace h := (u_if h).2
        cases h
        exact ⟨by show _ ≤ mNc M + 1; omega, by show _ ≤ mNs M + 6; omega⟩
      · split at h
        · cases h; exact ⟨Nat.le_refl _, Nat.le_refl _⟩
        · split at h
          · next F hF =>
            have h1 := xs_mono hF
            have h2 := ih _ _ _ _ _ _ h
            exact ⟨Nat.le_trans h1.1 h2.1, Nat.le_trans h1.2 h2.2⟩
          · split at h
            · cases h
            · next q hq =>
              replace h := (u_if h).2
              split at h
              · cases h
              · next v M' hr =>
                have h1 := ih _ _ _ _ _ _ hr
                have h2 := ih _ _ _ _ _ _ h
                exact ⟨Nat.le_trans h1.1 h2.1, Nat.le_trans h1.2 h2.2⟩
              · next k M' hr =>
                have h1 := ih _ _ _ _ _ _ hr
                replace h := (u_if h).2
                split at h
                · cases h; exact h1
                · split at h
                  · cases h
                  · split at h
                    · cases h
                    · have h2 := ih _ _ _ _ _ _ h
                      exact ⟨Nat.le_trans h1.1 h2.1, Nat.le_trans h1.2 h2.2⟩
/-- room for d calls deeper -/
def xrm (d kc ks : Nat) : Room := { frames := d + 1, cells := kc, slots := ks, locals := 32 * d + 124 }
def xPc (D : va_G) (dA : Nat → ClassId) (ad : Nat → Nat) (A : Nat → Prop) (S : Nat × (Nat → Int32)) (As : List Value) (M : xM) : Array Value → State → Prop := fun a U => a = (As.map (xL ad)).toArray ∧ xRel D dA ad M U.heap ∧ xKK D dA ad A S U
def xQ (D : va_G) (dA : Nat → ClassId) (ad : Nat → Nat) (A : Nat → Prop) (o : xO) : Array Value → State → Outcome → State → Prop := fun _ st oc t => ∃ v, o.1 = .inl v ∧ oc = .returned (v.map (xL ad)) ∧ xRel D dA ad o.2 t.heap ∧ va_F A st t
def xX (D : va_G) (dA : Nat → ClassId) (ad : Nat → Nat) (A : Nat → Prop) (o : xO) : String → State → State → Prop := fun E st t => ∃ k, o.1 = .inr k ∧ k < 3 ∧ E = xen k ∧ xRel D dA ad o.2 t.heap ∧ va_F A st t
def xMet (l : Launch) (D : va_G) (dA : Nat → ClassId) (ad : Nat → Nat) (A : Nat → Prop) (S : Nat × (Nat → Int32)) (mi : Nat) (As : List Value) (M : xM) (o : xO) : Prop :=
  ∀ q, xme mi = some q → mi < 276 → vx_Met l (xnam mi) [xcw q] (xrm (xrk mi) (mNc o.2 - mNc M) (mNs o.2 - mNs M)) (xPc D dA ad A S As M) (xQ D dA ad A o) (xX D dA ad A o) (mNc o.2 - mNc M) (mNs o.2 - mNs M) A
section XR
variable {p : Program} {l : Launch} {e : Env} {R : Room} {s : State} {m : MethodId} {args : Array Value} {below : List Frame} {meth : Method} {c : Code} {D : va_G} {dA : Nat → ClassId} {ad : Nat → Nat} {A : Nat → Prop} {S : Nat × (Nat → Int32)} {mi c0 n0 : Nat} {Q : State → Prop} {pc len : Nat} {lc : List (Nat × Value)} {st : List Value} {M : xM} {F : xF} {F3 : xF3} {H : Heap} {locs : List Loc} {ls : Array Slot}
theorem xcat_sum (r : List Value) : (List.map (fun v => v.category) (r.map (xL ad))).sum = (r.map fun v => v.category).sum := by
  congr 1
  rw [List.map_map]
  exact List.map_congr_left fun v _ => xL_cat ad v
theorem xsO {ins : Instr} (C : xC p l R s m args meth c D dA ad A S mi) (hf : decode (xcode mi) pc = .ok (ins, len)) (h : xstepO ins len mi pc lc st = some F3) (hfr : 1 ≤ R.frames) (hlr : 124 ≤ R.locals) (k : xG p l e R s m args below meth c D dA ad A mi c0 n0 Q (F3.1, F3.2.1, F3.2.2, M)) : xG p l e R s m args below meth c D dA ad A mi c0 n0 Q (pc, lc, st, M) := by
  obtain ⟨hx, hb, hml, hown, hts, -⟩ := C
  intro H locs ls hR hS hl
  cases ins with
  | invokespecial i =>
    simp only [xstepO] at h
    replace h := u_if h
    obtain ⟨rfl, h⟩ := h
    replace h := Option.bind_eq_some_iff.mp h
    obtain ⟨q, hq, h⟩ := h
    replace h := u_if h
    obtain ⟨rfl, h⟩ := h
    replace h := u_1A h
    obtain ⟨a, r, rfl, h⟩ := h
    replace h := u_if h
    obtain ⟨hcat, h⟩ := h
    cases h
    have ho : xown mi < 15 := by
      rcases Nat.lt_or_ge (xown mi) 15 with q1 | q1
      · exact q1
      · rw [xoi_b _ q1] at hq; cases hq
    have h0 := List.all_eq_true.mp xoi_all (xown mi) (List.mem_range.mpr ho)
    unfold xoiP at h0
    rw [hq] at h0
    simp only [Bool.and_eq_true] at h0
    exact W.objInit hx hb hown (hts _ (xchk_in h0.1.1)) (hts _ (xchk_in h0.1.2)) (hts _ (xchk_in h0.2)) rfl (by rw [hml]; exact hl.1) rfl hf hfr (by show 2 * 0 + (List.map (fun v => v.category) (r.map (xL ad))).sum + 12 ≤ _; rw [xcat_sum]; omega) (k H locs ls hR hS hl)
  | _ => simp [xstepO] at h
theorem xs_ok {ins : Instr} {S' : Option (Nat × (Nat → Int32))} (hS' : ∀ z, S' = some z → z = S) (C : xC p l R s m args meth c D dA ad A S mi) (hf : decode (xcode mi) pc = .ok (ins, len)) (h : xstep S' ins len mi pc lc st M = some F) (hc0 : c0 ≤ mNc M) (hn0 : n0 ≤ mNs M) (hcr : mNc F.2.2.2 - c0 ≤ R.cells) (hsr : mNs F.2.2.2 - n0 ≤ R.slots) (hfr : 1 ≤ R.frames) (hlr : 124 ≤ R.locals) (k : xG p l e R s m args below meth c D dA ad A mi c0 n0 Q F) : xG p l e R s m args below meth c D dA ad A mi c0 n0 Q (pc, lc, st, M) := by
  unfold xstep at h
  rcases u_or h with h | h
  · obtain ⟨q, h1, rfl⟩ := Option.map_eq_some_iff.mp h
    rcases u_or h1 with h1 | h1
    · rcases u_or h1 with h1 | h1
      · exact xsA C hf h1 k
      · exact xsB C hf h1 k
    · exact xsO C hf h1 hfr hlr k
  · exact xsC hS' C hf h hc0 hn0 hcr hsr hfr hlr k
theorem xG_arr (k : xG p l e R s m args below meth c D dA ad A mi c0 n0 Q (pc, xpr mi pc lc, st, xsl mi pc M)) : xG p l e R s m args below meth c D dA ad A mi c0 n0 Q (pc, lc, st, M) := by
  intro H locs ls hR hS hl
  obtain ⟨q1, q2⟩ := xsl_c mi pc M
  have hR' : xRel D dA ad (xsl mi pc M) H := by
    unfold xsl
    split
    · obtain ⟨h1, h2, h3, h4⟩ := hR
      exact ⟨h1, h2, (fun z => by cases z), h4⟩
    · exact hR
  have hl' : lv_has ls (xnL mi) (xLl ad (xpr mi pc lc)) := by
    unfold xpr
    split
    · exact hl
    · exact xhas_filter hl
  have := k H locs ls hR' hS hl'
  dsimp only at this
  rw [q1, q2] at this
  exact this
/-- a method ends by itself -/
theorem xend_ok {ins : Instr} {v : Option Value} {mc ms : Nat} {o : xO} (C : xC p l R s m args meth c D dA ad A S mi) (hf : decode (xcode mi) pc = .ok (ins, len)) (h : xend ins len mi st = some v) (ho : o = (.inl v, M)) (hc : mNc M - c0 ≤ mc) (hs : mNs M - n0 ≤ ms) : xG p l e R s m args below meth c D dA ad A mi c0 n0 (vx_MQ below (xQ D dA ad A o) (xX D dA ad A o) args s mc ms A) (pc, lc, st, M) := by
  obtain ⟨hx, hb, hml, hown, hts, -, -, hlocks, hret, -⟩ := C
  intro H locs ls hR hS hl
  subst ho
  have hq : ∀ (w : Option Value) (t : State), w = v.map (xL ad) → t.heap = H → xQ D dA ad A ((.inl v, M) : xO) args s (.returned w) t := fun w t hw ht => ⟨v, rfl, by rw [hw], by rw [ht]; exact hR, hS.F ht⟩
  refine W.widen (k := mc) (n := ms) hc hs (vx_ret ?_)
  cases ins with
  | ireturn =>
    simp only [xend] at h
    replace h := u_if h
    obtain ⟨rfl, h⟩ := h
    match st, h with
    | [.int x], h =>
      dsimp only at h
      split at h
      · next hr =>
        cases h
        exact W.iret (v := x) hx hb (hret.trans hr) (fun t ht hW => hq _ t rfl ht) hS.2.2 hf hlocks
      · next hr =>
        replace h := u_if h
        obtain ⟨hx01, h⟩ := h
        cases h
        exact W.zret (v := x) hx hb (hret.trans hr) (by rcases hx01 with rfl | rfl <;> rfl) (fun t ht hW => hq _ t rfl ht) hS.2.2 hf hlocks
      · cases h
    | [], h => cases h
  | lreturn =>
    simp only [xend] at h
    replace h := u_if h
    obtain ⟨⟨rfl, hr⟩, h⟩ := h
    match st, h with
    | [.long x], h =>
      cases h
      exact W.lret (v := x) hx hb (hret.trans hr) (fun t ht hW => hq _ t rfl ht) hS.2.2 hf hlocks
    | [], h => cases h
  | areturn =>
    simp only [xend] at h
    replace h := u_if h
    obtain ⟨rfl, h⟩ := h
    match st, h with
    | [.ref x], h =>
      dsimp only at h
      split at h
      · next C hr =>
        cases h
        exact W.aret (v := .ref (ad x)) (rt := .object C) hx hb (hret.trans hr) (Or.inl ⟨_, rfl⟩) (Or.inr ⟨_, rfl⟩) (fun t ht hW => hq _ t rfl ht) hS.2.2 hf hlocks
      · cases h
    | [.null], h =>
      dsimp only at h
      split at h
      · next C hr =>
        cases h
        exact W.aret (v := .null) (rt := .object C) hx hb (hret.trans hr) (Or.inl ⟨_, rfl⟩) (Or.inl rfl) (fun t ht hW => hq _ t rfl ht) hS.2.2 hf hlocks
      · cases h
    | [], h => cases h
  | return_ =>
    simp only [xend] at h
    replace h := u_if h
    obtain ⟨⟨rfl, hr⟩, h⟩ := h
    match st, h with
    | [], h =>
      cases h
      exact W.vret hx hb (hret.trans hr) (fun t ht hW => hq _ t rfl ht) hS.2.2 hf hlocks
    | _ :: _, h => cases h
  | _ => simp [xend] at h
/-- a callee that answers -/
theorem x_back {rest : List Value} {v : Option Value} {M' : xM} {kc ks : Nat} {a : Array Value} {Hh : Heap} (hr : vx_Run p l e R s m args below meth c Hh locs (mNc M - c0) (mNs M - n0) kc ks (F0 m pc ls st) (rest.map (xL ad)) ((xQ D dA ad A (.inl v, M')) a) (xX D dA ad A (.inl v, M')) A) (hS : va_S A s.heap Hh locs) (hl : lv_has ls (xnL mi) (xLl ad lc)) (e1 : mNc M - c0 + kc = mNc M' - c0) (e2 : mNs M - n0 + ks = mNs M' - n0)
    (k : xG p l e R s m args below meth c D dA ad A mi c0 n0 Q (pc + 3, lc, v.toList ++ rest, M')) : W p l e R s m args below meth c Hh locs (mNc M - c0) (mNs M - n0) Q (F0 m pc ls st) := by
  intro T hT X
  rcases hr T hT X with ⟨w, st₀, t, T', L, h0, X', hL, e3, e4, ⟨v', hv', hw, hR', hF⟩, st'⟩ | ⟨q, st₀, t, T', L, E, ce, h0, X', hL, e3, e4, ⟨k', hk', -⟩, -⟩
  · cases hv'
    cases hw
    obtain ⟨-, -, k3⟩ := vx_keep h0 e3 hS (fun q _ h => h) (fun q h => h) hL hF
    rw [e1, e2] at X'
    obtain ⟨t2, a1, b1⟩ := k T'.heap (locs ++ L) ls (by rw [e3]; exact hR') k3 hl T' rfl X'
    refine ⟨t2, st' t2 ?_, b1⟩
    have e5 : (v.toList ++ rest).map (xL ad) = (v.map (xL ad)).toList ++ rest.map (xL ad) := by cases v <;> simp
    dsimp only at a1
    rw [e5] at a1
    exact a1
  · cases hk'
/-- a callee that throws -/
theorem x_thrown {rest : List Value} {k0 : Nat} {M' : xM} {kc ks : Nat} {a : Array Value} {Hh : Heap} (hr : vx_Run p l e R s m args below meth c Hh locs (mNc M - c0) (mNs M - n0) kc ks (F0 m pc ls st) (rest.map (xL ad)) ((xQ D dA ad A (.inr k0, M')) a) (xX D dA ad A (.inr k0, M')) A) (hS : va_S A s.heap Hh locs) (e1 : mNc M - c0 + kc = mNc M' - c0) (e2 : mNs M - n0 + ks = mNs M' - n0)
    (k : ∀ (H1 : Heap) (locs1 : List Loc) (ce : Cell) (q : Addr), xRel D dA ad M' H1 → va_S A s.heap H1 locs1 → k0 < 3 → H1[q]? = some ce → ce.vm = .none → s.vm.findClass (xen k0) = some ce.cls → vx_W p l e R s m args below meth c H1 locs1 (mNc M' - c0) (mNs M' - n0) Q (F0 m pc ls (rest.map (xL ad))) q) : W p l e R s m args below meth c Hh locs (mNc M - c0) (mNs M - n0) Q (F0 m pc ls st) := by
  intro T hT X
  rcases hr T hT X with ⟨w, st₀, t, T', L, h0, X', hL, e3, e4, ⟨v', hv', -⟩, st'⟩ | ⟨q, st₀, t, T', L, E, ce, h0, X', hL, e3, e4, ⟨k', hk', hk3, hE, hR', hF⟩, hce, hcv, hcl, st'⟩
  · cases hv'
  · cases hk'
    subst hE
    obtain ⟨-, -, k3⟩ := vx_keep h0 e3 hS (fun q _ h => h) (fun q h => h) hL hF
    rw [e1, e2] at X'
    obtain ⟨t2, a1, b1⟩ := k T'.heap (locs ++ L) ce q (by rw [e3]; exact hR') k3 hk3 (by rw [e3]; exact hce) hcv hcl T' rfl X'
    exact ⟨t2, st'.trans a1, b1⟩
end XR
