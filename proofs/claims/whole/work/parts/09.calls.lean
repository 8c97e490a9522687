/-! ===== calls and throws ===== -/
theorem xmP_of {mi : Nat} {q : xME} (h : xme mi = some q) : plainFor q.2.1 = true ∧ q.2.1.cls = xclsN q.1 ∧ q.2.1.cls ≠ "java/lang/invoke/MethodHandle" ∧ q.2.1.cls ≠ "java/lang/invoke/VarHandle" ∧ (parseMethodDescriptor q.2.1.desc).map (fun d => d.parameters.length) = some q.2.2.2.2.2.1 ∧ q.2.2.2.1 ≤ 13 := by
  have h0 := List.all_eq_true.mp xm_all q (xme_in h)
  unfold xmP at h0
  simp only [Bool.and_eq_true, decide_eq_true_eq] at h0
  exact ⟨h0.1.1.1.1.1, h0.1.1.1.1.2, h0.1.1.1.2, h0.1.1.2, h0.1.2, h0.2⟩
theorem xmW_of {mi : Nat} {q : xME} (h : xme mi = some q) (hm : mi < 276) : xmW q := by
  unfold xme at h
  split at h
  · exact xmWs_0 q (List.mem_of_getElem? h)
  split at h
  · exact xmWs_1 q (List.mem_of_getElem? h)
  split at h
  · exact xmWs_2 q (List.mem_of_getElem? h)
  split at h
  · exact xmWs_3 q (List.mem_of_getElem? h)
  split at h
  · exact xmWs_4 q (List.mem_of_getElem? h)
  split at h
  · exact xmWs_5 q (List.mem_of_getElem? h)
  split at h
  · refine xmWs_6 q (List.mem_of_getElem? (i := mi - 240) ?_)
    unfold xm6c
    rw [List.getElem?_take_of_lt (by omega)]
    exact h
  cases h
theorem xcode_of {mi : Nat} {q : xME} (h : xme mi = some q) : xown mi = q.1 ∧ xnam mi = q.2.1 ∧ xcode mi = q.2.2.1 ∧ xnL mi = q.2.2.2.1 ∧ xret mi = q.2.2.2.2.1 ∧ xnp mi = q.2.2.2.2.2.1 ∧ xhh mi = q.2.2.2.2.2.2.2 := by
  unfold xown xnam xcode xnL xret xnp xhh
  rw [h]
  exact ⟨rfl, rfl, rfl, rfl, rfl, rfl, rfl⟩
theorem xct_ok {o i : Nat} {q : Nat × Nat × Nat} (h : xfind (xct o) i = some q) : q.2.1 < 276 ∧ ∃ z, xme q.2.1 = some z ∧
    ((q.1 = 0 ∧ Jvm.Cond.methodLink (xclsN o) i z.2.1 ∈ kxT ∧ z.2.2.2.2.2.2.1 = true ∧ z.2.1.name ≠ "<init>" ∧ z.2.2.2.2.2.2.2 = []) ∨
    (q.1 = 1 ∧ Jvm.Cond.methodLink (xclsN o) i z.2.1 ∈ kxT ∧ z.2.2.2.2.2.2.1 = false) ∨
    (q.1 = 2 ∧ Jvm.Cond.methodLink (xclsN o) i z.2.1 ∈ kxT ∧ z.2.2.2.2.2.2.1 = true ∧ z.2.1.name = "<init>" ∧ z.2.2.2.2.1 = none ∧ z.2.2.2.2.2.2.2 = []) ∨
    (q.1 = 4 ∧ Jvm.Cond.methodLinkNest (xclsN o) i z.2.1 "RecordLayouts" ∈ kxT ∧ z.2.2.2.2.2.2.1 = false ∧ z.2.2.2.2.2.2.2 = []) ∨
    (q.1 ≠ 0 ∧ q.1 ≠ 1 ∧ q.1 ≠ 2 ∧ q.1 ≠ 4 ∧ Jvm.Cond.methodLinkNest (xclsN o) i z.2.1 "RecordLayouts" ∈ kxT ∧ z.2.2.2.2.2.2.1 = true ∧ z.2.1.name = "<init>" ∧ z.2.2.2.2.1 = none ∧ z.2.2.2.2.2.2.2 = [])) := by
  have h0 := xall (P := xctP) xct_all xct_b (xfind_mem h)
  unfold xctP at h0
  rw [Bool.and_eq_true, decide_eq_true_eq] at h0
  obtain ⟨h1, h0⟩ := h0
  refine ⟨h1, ?_⟩
  dsimp only at h0
  split at h0
  · cases h0
  · next z hz =>
    refine ⟨z, hz, ?_⟩
    split at h0
    · next e =>
      simp only [Bool.and_eq_true, decide_eq_true_eq, List.isEmpty_iff] at h0
      exact Or.inl ⟨e, xchk_in h0.1.1.1, h0.1.1.2, h0.1.2, h0.2⟩
    · next e0 =>
      split at h0
      · next e =>
        simp only [Bool.and_eq_true, Bool.not_eq_true'] at h0
        exact Or.inr (Or.inl ⟨e, xchk_in h0.1, h0.2⟩)
      · next e1 =>
        split at h0
        · next e =>
          simp only [Bool.and_eq_true, decide_eq_true_eq, List.isEmpty_iff] at h0
          exact Or.inr (Or.inr (Or.inl ⟨e, xchk_in h0.1.1.1.1, h0.1.1.1.2, h0.1.1.2, h0.1.2, h0.2⟩))
        · next e2 =>
          split at h0
          · next e =>
            simp only [Bool.and_eq_true, Bool.not_eq_true', List.isEmpty_iff] at h0
            exact Or.inr (Or.inr (Or.inr (Or.inl ⟨e, xchk_in h0.1.1, h0.1.2, h0.2⟩)))
          · next e4 =>
            simp only [Bool.and_eq_true, decide_eq_true_eq, List.isEmpty_iff] at h0
            exact Or.inr (Or.inr (Or.inr (Or.inr ⟨e0, e1, e2, e4, xchk_in h0.1.1.1.1, h0.1.1.1.2, h0.1.1.2, h0.1.2, h0.2⟩)))
theorem kx_good {w : Cond} (h : w ∈ kxT) (hg : goodWord w = true) : ∀ w' ∈ [w], w' ∈ kxT ∧ ((w'.onTables && w'.keeps) = true ∨ ∃ ty, w' = .arrayClass ty) := fun w' h' => by
  rw [List.mem_singleton] at h'
  subst h'
  exact ⟨h, good_of_word hg⟩
theorem xcw_good (q : xME) : goodWord (xcw q) = true := by unfold xcw; split <;> rfl
section XK
variable {p : Program} {l : Launch} {e : Env} {R : Room} {s : State} {m : MethodId} {args : Array Value} {below : List Frame} {meth : Method} {c : Code} {D : va_G} {dA : Nat → ClassId} {ad : Nat → Nat} {A : Nat → Prop} {S : Nat × (Nat → Int32)} {mi c0 n0 : Nat} {Q : State → Prop} {pc len : Nat} {lc : List (Nat × Value)} {st : List Value} {M : xM} {H : Heap} {locs : List Loc} {ls : Array Slot}
theorem xPc_blind {As : List Value} (had : xAd ad A) : FrameBlind (xPc D dA ad A S As M) := fun a U g mk h => by
  obtain ⟨h1, h2, h3⟩ := h
  exact ⟨h1, h2, xKK.moved (U := U.calling g mk a) had h3 (State.WarmedH.refl U) va_S.rf⟩
theorem xPc_at {As : List Value} (had : xAd ad A) (hKK : xKK D dA ad A S s) (hR : xRel D dA ad M H) (hS : va_S A s.heap H locs) : ∀ U : State, U.heap = H → s.WarmedH U.vm → xPc D dA ad A S As M (As.map (xL ad)).toArray U := fun U hU hW =>
  ⟨rfl, by rw [hU]; exact hR, xKK.moved had hKK hW (by rw [hU]; exact hS)⟩
theorem x_take {st : List Value} {k : Nat} (h : (st.take k).length = k) {rest : List Value} (hr : st.drop k = rest) (f : Value → Value) : st.map f = ((st.take k).reverse.map f).reverse ++ rest.map f := by
  rw [← hr, List.map_reverse, List.reverse_reverse, ← List.map_append, List.take_append_drop]
/-- the call of a method that has a contract -/
theorem x_call {ins : Instr} {q : Nat × List Value × List Value × Bool} {o : xO} (C : xC p l R s m args meth c D dA ad A S mi) (hf : decode (xcode mi) pc = .ok (ins, len)) (h : xcall ins len mi st M = some q) (hM : xMet l D dA ad A S q.1 q.2.1 M o) (hthr : q.2.2.2 = false → ∃ v, o.1 = .inl v) (hfr : xrk q.1 + 2 ≤ R.frames) (hlr : 32 * xrk q.1 + 156 ≤ R.locals) (hc : mNc M - c0 + (mNc o.2 - mNc M) ≤ R.cells) (hs : mNs M - n0 + (mNs o.2 - mNs M) ≤ R.slots)
    (hR : xRel D dA ad M H) (hS : va_S A s.heap H locs) (hl : lv_has ls (xnL mi) (xLl ad lc)) :
    len = 3 ∧ ∃ a, vx_Run p l e R s m args below meth c H locs (mNc M - c0) (mNs M - n0) (mNc o.2 - mNc M) (mNs o.2 - mNs M) (F0 m pc ls (st.map (xL ad))) (q.2.2.1.map (xL ad)) ((xQ D dA ad A o) a) (xX D dA ad A o) A := by
  obtain ⟨hx, hb, hml, hown, hts, hKK, had, -⟩ := C
  have fix : CallFix p m c (xcode mi) (xnL mi) s args kxT (xclsN (xown mi)) := ⟨hx, hb, hml, hown, hts⟩
  have key : ∀ {n : Nat} {z : xME} {y : MethodName}, xme n = some z → y = z.2.1 → (parseMethodDescriptor y.desc).map (fun d => d.parameters.length) = some (xnp n) := fun {n z y} hz hy => by
    rw [hy, (xcode_of hz).2.2.2.2.2.1]; exact (xmP_of hz).2.2.2.2.1
  have hmet : ∀ {n : Nat} {z : xME} {As : List Value}, xme n = some z → n < 276 → xMet l D dA ad A S n As M o → vx_Met l z.2.1 [xcw z] (xrm (xrk n) (mNc o.2 - mNc M) (mNs o.2 - mNs M)) (xPc D dA ad A S As M) (xQ D dA ad A o) (xX D dA ad A o) (mNc o.2 - mNc M) (mNs o.2 - mNs M) A := fun {n z As} hz hn h => by
    have := h z hz hn
    rw [(xcode_of hz).2.1] at this
    exact this
  have toMet : ∀ {y : MethodName} {ws : List Cond} {rm : Room} {As : List Value} {kc ks : Nat}, (∃ v, o.1 = .inl v) → vx_Met l y ws rm (xPc D dA ad A S As M) (xQ D dA ad A o) (xX D dA ad A o) kc ks A → Met l y ws rm (xPc D dA ad A S As M) (xQ D dA ad A o) kc ks A := fun {y ws rm As kc ks} ho h => by
    obtain ⟨v, ho⟩ := ho
    refine MetFree.mono h (fun a s h => h) (fun _ _ _ _ _ h => h) ?_
    intro a st oc t hP hq
    rcases hq with hq | ⟨q9, -, E9, ce9, L9, ⟨k9, hk9, -⟩, -⟩
    · exact hq
    · rw [ho] at hk9; cases hk9
  cases ins with
  | invokevirtual i =>
    simp only [xcall] at h
    replace h := u_if h
    obtain ⟨rfl, h⟩ := h
    refine ⟨rfl, ?_⟩
    replace h := Option.bind_eq_some_iff.mp h
    obtain ⟨z, hz, h⟩ := h
    replace h := u_if h
    obtain ⟨hk0, h⟩ := h
    split at h
    · next b r hd =>
      replace h := u_if h
      obtain ⟨⟨hb2, hb3, hsh, hlt, hlen, hcat⟩, h⟩ := h
      cases h
      obtain ⟨hn, w, hw, hkind⟩ := xct_ok hz
      rcases hkind with ⟨-, w1, w2, w3, w4⟩ | ⟨e1, -⟩ | ⟨e1, -⟩ | ⟨e1, -⟩ | ⟨e1, -⟩
      · obtain ⟨g1, g2, -, g3, g4⟩ := xmW_of hw hn
        obtain ⟨u1, u2, u3, u4, u5, u6, u7⟩ := xcode_of hw
        obtain ⟨p1, p2, p3, p4, p5, p6⟩ := xmP_of hw
        have hcw : xcw w = .code w.2.1 w.2.2.1 w.2.2.2.1 w.2.2.2.2.1 := by unfold xcw; rw [if_pos w4]
        have hE : xwE dA ad M b = .inr (w.1, xfs ad M w.1 b) := by
          have := (xat_arr (dA := dA) (ad := ad) (M := M) (a := b) (k := 4 + w.1) (n := (mSh M b).2) (by rw [← u1, ← hsh])).2.2.2.2 (by omega) (by omega)
          rw [this, Nat.add_sub_cancel_left]
        have hat := xW_get dA ad M hb2 hb3
        rw [hE] at hat
        have hM' := hmet hw hn hM
        rw [hcw] at hM'
        refine ⟨_, vx_runV (b := ad b) (As := (st.take (xnp z.2.1)).reverse.map (xL ad)) fix hM' (cwV (C := xclsN w.1) (ws' := []) (xnp z.2.1) hts ?_ rfl rfl rfl ⟨p2, p3, p4, key hw rfl⟩ ⟨by show xrk z.2.1 + 1 + 1 ≤ _; dsimp only at hfr; omega, by show 8 + (w.2.2.2.1 + 11) + (32 * xrk z.2.1 + 124) ≤ _; dsimp only at hlr; omega⟩) ⟨xPc_blind had, va_recv hKK.1 hR.1 (xclassT (by omega)) hat, ?_⟩ rfl (by rw [List.length_map, List.length_reverse]; exact hlen) hl.1 ?_ (by show 2 * 0 + (List.map (fun v => v.category) (r.map (xL ad))).sum ≤ 8; rw [xcat_sum]; omega) hf ⟨hc, hs⟩⟩
        · intro w' hw'
          simp only [wsV, List.mem_append, List.mem_cons, List.not_mem_nil, or_false] at hw'
          rcases hw' with (rfl | rfl | rfl | rfl) | rfl
          · exact ⟨w1, good_of_word rfl⟩
          · exact ⟨g2 w2, good_of_word rfl⟩
          · rw [← p2]; exact ⟨g3 w2 w3, good_of_word rfl⟩
          · rw [← p2]; exact ⟨g4, good_of_word rfl⟩
          · rw [← hcw]; exact ⟨g1, good_of_word (xcw_good w)⟩
        · exact xPc_at had hKK hR hS
        · show st.map (xL ad) = _
          rw [x_take hlen hd (xL ad)]
          rfl
      · omega
      · omega
      · omega
      · omega
    · cases h
  | invokestatic i =>
    simp only [xcall] at h
    replace h := u_if h
    obtain ⟨rfl, h⟩ := h
    refine ⟨rfl, ?_⟩
    replace h := Option.bind_eq_some_iff.mp h
    obtain ⟨z, hz, h⟩ := h
    replace h := u_if h
    obtain ⟨⟨hk14, hlen, hcat⟩, h⟩ := h
    cases h
    obtain ⟨hn, w, hw, hkind⟩ := xct_ok hz
    obtain ⟨g1, g2, g5, g3, g4⟩ := xmW_of hw hn
    obtain ⟨u1, u2, u3, u4, u5, u6, u7⟩ := xcode_of hw
    obtain ⟨p1, p2, p3, p4, p5, p6⟩ := xmP_of hw
    have hM' := hmet hw hn hM
    have hlen' : ((st.take (xnp z.2.1)).reverse.map (xL ad)).length = xnp z.2.1 := by rw [List.length_map, List.length_reverse]; exact hlen
    have hst : st.map (xL ad) = ((st.take (xnp z.2.1)).reverse.map (xL ad)).reverse ++ (st.drop (xnp z.2.1)).map (xL ad) := x_take hlen rfl (xL ad)
    have hct : 2 * (F0 m pc ls (st.map (xL ad))).monitorRoom + (((st.drop (xnp z.2.1)).map (xL ad)).map fun v => v.category).sum ≤ 8 := by
      show 2 * 0 + (List.map (fun v => v.category) ((st.drop (xnp z.2.1)).map (xL ad))).sum ≤ 8
      rw [xcat_sum]; omega
    have hroom : (xrm (xrk z.2.1) (mNc o.2 - mNc M) (mNs o.2 - mNs M)).frames + 1 ≤ R.frames ∧ 8 + (w.2.2.2.1 + 11) + (xrm (xrk z.2.1) (mNc o.2 - mNc M) (mNs o.2 - mNs M)).locals ≤ R.locals := ⟨by show xrk z.2.1 + 1 + 1 ≤ _; dsimp only at hfr; omega, by show 8 + (w.2.2.2.1 + 11) + (32 * xrk z.2.1 + 124) ≤ _; dsimp only at hlr; omega⟩
    have hpre : PreS s H (xPc D dA ad A S (st.take (xnp z.2.1)).reverse M) ((st.take (xnp z.2.1)).reverse.map (xL ad)) := ⟨xPc_blind had, xPc_at had hKK hR hS⟩
    rcases hkind with ⟨e1, -⟩ | ⟨e1, w1, w2⟩ | ⟨e1, -⟩ | ⟨e1, w1, w2, w4⟩ | ⟨e1, e2, e3, e4, -⟩
    · omega
    · by_cases hh : w.2.2.2.2.2.2.2 = []
      · have hcw : xcw w = .code w.2.1 w.2.2.1 w.2.2.2.1 w.2.2.2.2.1 := by unfold xcw; rw [if_pos hh]
        rw [hcw] at hM'
        refine ⟨_, vx_runS (As := (st.take (xnp z.2.1)).reverse.map (xL ad)) fix hM' ⟨callB_of (ws' := []) (xnp z.2.1) hts ?_ rfl rfl rfl (hts _ g4) (hts _ w1) ⟨p3, p4, key hw rfl⟩ hroom, hts _ (g5 w2)⟩ hpre rfl hlen' hl.1 hst hct hf ⟨hc, hs⟩⟩
        rw [← hcw]
        exact kx_good g1 (xcw_good w)
      · have hcw : xcw w = .codeWith w.2.1 w.2.2.1 w.2.2.2.1 w.2.2.2.2.1 w.2.2.2.2.2.2.2 := by unfold xcw; rw [if_neg hh]
        rw [hcw] at hM'
        refine ⟨_, vx_runSX (As := (st.take (xnp z.2.1)).reverse.map (xL ad)) fix hM' (vx_cwSW (ws' := []) (xnp z.2.1) hts ?_ rfl rfl rfl ⟨p3, p4, key hw rfl⟩ hroom) hpre rfl hlen' hl.1 hst hct hf ⟨hc, hs⟩⟩
        intro w' hw'
        simp only [va_wsS, List.mem_append, List.mem_cons, List.not_mem_nil, or_false] at hw'
        rcases hw' with (rfl | rfl | rfl) | rfl
        · exact ⟨w1, good_of_word rfl⟩
        · exact ⟨g5 w2, good_of_word rfl⟩
        · exact ⟨g4, good_of_word rfl⟩
        · rw [← hcw]; exact ⟨g1, good_of_word (xcw_good w)⟩
    · omega
    · have hcw : xcw w = .code w.2.1 w.2.2.1 w.2.2.2.1 w.2.2.2.2.1 := by unfold xcw; rw [if_pos w4]
      rw [hcw] at hM'
      have hv := hthr (by show (z.1 == 1) = false; rw [e1]; rfl)
      refine ⟨((st.take (xnp z.2.1)).reverse.map (xL ad)).toArray, fun T hT X => Or.inl (va_runSN (own := xclsN (xown mi)) (host := "RecordLayouts") (As := (st.take (xnp z.2.1)).reverse.map (xL ad)) fix (toMet hv hM') ⟨va_cnB (ws' := []) (xnp z.2.1) hts ?_ rfl rfl rfl (hKK.2.1 _ w1) (hts _ g4) ⟨p3, p4, key hw rfl⟩ hroom, hts _ (g5 w2), trivial⟩ hpre rfl hlen' hl.1 hst hct hf ⟨hc, hs⟩ T hT X)⟩
      rw [← hcw]
      exact kx_good g1 (xcw_good w)
    · omega
  | invokespecial i =>
    simp only [xcall] at h
    replace h := u_if h
    obtain ⟨rfl, h⟩ := h
    refine ⟨rfl, ?_⟩
    replace h := Option.bind_eq_some_iff.mp h
    obtain ⟨z, hz, h⟩ := h
    replace h := u_if h
    obtain ⟨hk25, h⟩ := h
    split at h
    · next b r hd =>
      replace h := u_if h
      obtain ⟨⟨hlen, hcat⟩, h⟩ := h
      cases h
      obtain ⟨hn, w, hw, hkind⟩ := xct_ok hz
      obtain ⟨g1, g2, g5, g3, g4⟩ := xmW_of hw hn
      obtain ⟨u1, u2, u3, u4, u5, u6, u7⟩ := xcode_of hw
      obtain ⟨p1, p2, p3, p4, p5, p6⟩ := xmP_of hw
      have hM' := hmet hw hn hM
      have hlen' : ((st.take (xnp z.2.1)).reverse.map (xL ad)).length = xnp z.2.1 := by rw [List.length_map, List.length_reverse]; exact hlen
      have hst : st.map (xL ad) = ((st.take (xnp z.2.1)).reverse.map (xL ad)).reverse ++ .ref (ad b) :: r.map (xL ad) := by rw [x_take hlen hd (xL ad)]; rfl
      have hct : 2 * (F0 m pc ls (st.map (xL ad))).monitorRoom + ((r.map (xL ad)).map fun v => v.category).sum ≤ 8 := by
        show 2 * 0 + (List.map (fun v => v.category) (r.map (xL ad))).sum ≤ 8
        rw [xcat_sum]; omega
      have hroom : (xrm (xrk z.2.1) (mNc o.2 - mNc M) (mNs o.2 - mNs M)).frames + 1 ≤ R.frames ∧ 8 + (w.2.2.2.1 + 11) + (xrm (xrk z.2.1) (mNc o.2 - mNc M) (mNs o.2 - mNs M)).locals ≤ R.locals := ⟨by show xrk z.2.1 + 1 + 1 ≤ _; dsimp only at hfr; omega, by show 8 + (w.2.2.2.1 + 11) + (32 * xrk z.2.1 + 124) ≤ _; dsimp only at hlr; omega⟩
      have hpre : PreS s H (xPc D dA ad A S (.ref b :: (st.take (xnp z.2.1)).reverse) M) (.ref (ad b) :: (st.take (xnp z.2.1)).reverse.map (xL ad)) := ⟨xPc_blind had, xPc_at had hKK hR hS⟩
      have hv := hthr rfl
      rcases hkind with ⟨e1, -⟩ | ⟨e1, -⟩ | ⟨e1, w1, w2, w3, w4, w5⟩ | ⟨e1, -⟩ | ⟨e1, e2, e3, e4, w1, w2, w3, w4, w5⟩
      · omega
      · omega
      · have hcw : xcw w = .code w.2.1 w.2.2.1 w.2.2.2.1 none := by unfold xcw; rw [if_pos w5, w4]
        rw [hcw] at hM'
        refine ⟨(.ref (ad b) :: (st.take (xnp z.2.1)).reverse.map (xL ad)).toArray, fun T hT X => Or.inl (va_runI (As := (st.take (xnp z.2.1)).reverse.map (xL ad)) fix (toMet hv hM') ⟨callB_of (ws' := []) (xnp z.2.1) hts ?_ rfl rfl rfl (hts _ g4) (hts _ w1) ⟨p3, p4, key hw rfl⟩ hroom, w3, hts _ (g2 w2)⟩ hpre rfl hlen' hl.1 hst hct hf ⟨hc, hs⟩ T hT X)⟩
        rw [← hcw]
        exact kx_good g1 (xcw_good w)
      · omega
      · have hcw : xcw w = .code w.2.1 w.2.2.1 w.2.2.2.1 none := by unfold xcw; rw [if_pos w5, w4]
        rw [hcw] at hM'
        refine ⟨(.ref (ad b) :: (st.take (xnp z.2.1)).reverse.map (xL ad)).toArray, fun T hT X => Or.inl (va_runIN (own := xclsN (xown mi)) (host := "RecordLayouts") (As := (st.take (xnp z.2.1)).reverse.map (xL ad)) fix (toMet hv hM') ⟨va_cnB (ws' := []) (xnp z.2.1) hts ?_ rfl rfl rfl (hKK.2.1 _ w1) (hts _ g4) ⟨p3, p4, key hw rfl⟩ hroom, w3, hts _ (g2 w2)⟩ hpre rfl hlen' hl.1 hst hct hf ⟨hc, hs⟩ T hT X)⟩
        rw [← hcw]
        exact kx_good g1 (xcw_good w)
    · cases h
  | _ => simp [xcall] at h
end XK
