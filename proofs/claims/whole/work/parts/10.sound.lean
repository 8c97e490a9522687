/-! ===== throws, catches, and the whole: by induction on the reader's fuel ===== -/
def xnames : List String := ["java/lang/RuntimeException", "java/lang/Exception"]
set_option maxRecDepth 100000 in
theorem xat_0 : (vx_atS RX9 106 (xen 0) xnames).all (fun w => decide (w ∈ lw_tbl) && kxOk w && vx_ot w) = true := by decide +kernel
set_option maxRecDepth 100000 in
theorem xat_1 : (vx_atS RX9 141 (xen 1) xnames).all (fun w => decide (w ∈ lw_tbl) && kxOk w && vx_ot w) = true := by decide +kernel
set_option maxRecDepth 100000 in
theorem xat_2 : (vx_atS RX9 161 (xen 2) xnames).all (fun w => decide (w ∈ lw_tbl) && kxOk w && vx_ot w) = true := by decide +kernel
def xik (k : Nat) : Nat × Nat := match k with | 0 => (102, 106) | 1 => (137, 141) | _ => (157, 161)
theorem xat_ok {k : Nat} (hk : k < 3) : ∀ w ∈ vx_atS RX9 (xik k).2 (xen k) xnames, w ∈ kxT ∧ vx_ot w = true := by
  have key : ∀ {L : List Cond}, L.all (fun w => decide (w ∈ lw_tbl) && kxOk w && vx_ot w) = true → ∀ w ∈ L, w ∈ kxT ∧ vx_ot w = true := fun {L} h w hw => by
    have := List.all_eq_true.mp h w hw
    simp only [Bool.and_eq_true, decide_eq_true_eq] at this
    exact ⟨List.mem_filter.mpr ⟨this.1.1, this.1.2⟩, this.2⟩
  match k, hk with
  | 0, _ => exact key xat_0
  | 1, _ => exact key xat_1
  | 2, _ => exact key xat_2
theorem xlk_ok {k : Nat} (hk : k < 3) : Jvm.Cond.classLink RX9 (xik k).1 (xen k) ∈ kxT := by
  match k, hk with
  | 0, _ => exact xk 2 237 rfl rfl
  | 1, _ => exact xk 3 68 rfl rfl
  | 2, _ => exact xk 3 153 rfl rfl
theorem xin_ok {k : Nat} (hk : k < 3) : Jvm.Cond.initialized (xen k) ∈ kxT := by
  match k, hk with
  | 0, _ => exact xk 1 15 rfl rfl
  | 1, _ => exact xk 1 16 rfl rfl
  | 2, _ => exact xk 1 19 rfl rfl
theorem xca_ok {k : Nat} (hk : k < 3) : Jvm.Cond.castable (xen k) (xen k) ∈ kxT := by
  match k, hk with
  | 0, _ => exact xk 2 239 rfl rfl
  | 1, _ => exact xk 3 70 rfl rfl
  | 2, _ => exact xk 3 155 rfl rfl
def xthP (t : Nat × Nat × Nat × Nat × Nat × Nat × Nat × String) : Bool :=
  decide (xown t.1 = 9) && (xhh t.1).isEmpty && decide (t.2.2.1 < 3) && decide ((t.2.2.2.2.1, t.2.2.2.2.2.2.1) = xik t.2.2.1) && decide (xfetch t.1 t.2.1 = some (.new t.2.2.2.2.1, 3)) && decide (xfetch t.1 (t.2.1 + 3) = some (.dup, 1)) &&
  ((decide (xfetch t.1 (t.2.1 + 4) = some (.ldc t.2.2.2.2.2.1, 2)) && decide (xfetch t.1 (t.2.1 + 6) = some (.invokespecial t.2.2.2.2.2.2.1, 3)) && decide (xfetch t.1 (t.2.1 + 9) = some (.athrow, 1))) ||
   (decide (xfetch t.1 (t.2.1 + 4) = some (.ldc_w t.2.2.2.2.2.1, 3)) && decide (xfetch t.1 (t.2.1 + 7) = some (.invokespecial t.2.2.2.2.2.2.1, 3)) && decide (xfetch t.1 (t.2.1 + 10) = some (.athrow, 1))))
set_option maxRecDepth 100000 in
theorem xth_all : xth.all xthP = true := by decide +kernel
theorem xfetch_ok {mi pc : Nat} {r : Instr × Nat} (h : xfetch mi pc = some r) : decode (xcode mi) pc = .ok r := by
  unfold xfetch at h
  split at h
  · next r' e => cases h; exact e
  · cases h
section XT
variable {p : Program} {l : Launch} {e : Env} {R : Room} {s : State} {m : MethodId} {args : Array Value} {below : List Frame} {meth : Method} {c : Code} {D : va_G} {dA : Nat → ClassId} {ad : Nat → Nat} {A : Nat → Prop} {S : Nat × (Nat → Int32)} {mi c0 n0 : Nat} {pc len : Nat} {lc : List (Nat × Value)} {M : xM}
theorem x_throw {ins : Instr} {k mc ms : Nat} (C : xC p l R s m args meth c D dA ad A S mi) (h : xthr ins mi pc = some k) (hc0 : c0 ≤ mNc M) (hn0 : n0 ≤ mNs M) (hc : mNc (xseal M) - c0 ≤ mc) (hs : mNs (xseal M) - n0 ≤ ms) (hcr : mNc (xseal M) - c0 ≤ R.cells) (hsr : mNs (xseal M) - n0 ≤ R.slots) (hfr : 6 ≤ R.frames) (hlr : 124 ≤ R.locals) : xG p l e R s m args below meth c D dA ad A mi c0 n0 (vx_MQ below (xQ D dA ad A (.inr k, xseal M)) (xX D dA ad A (.inr k, xseal M)) args s mc ms A) (pc, lc, [], M) := by
  obtain ⟨hx, hb, hml, hown, hts, hKK, had, hlocks, -, -, hst, hh0, -⟩ := C
  intro H locs ls hR hS hl
  unfold xthr at h
  split at h
  · obtain ⟨t, ht, rfl⟩ := Option.map_eq_some_iff.mp h
    have hmem := List.mem_of_find?_eq_some ht
    have hp := List.find?_some ht
    rw [Bool.and_eq_true, beq_iff_eq, beq_iff_eq] at hp
    obtain ⟨rfl, rfl⟩ := hp
    have h0 := List.all_eq_true.mp xth_all t hmem
    unfold xthP at h0
    simp only [Bool.and_eq_true, decide_eq_true_eq, Bool.or_eq_true, List.isEmpty_iff] at h0
    obtain ⟨⟨⟨⟨⟨⟨w1, w2⟩, w3⟩, w4⟩, d0⟩, d3⟩, dd⟩ := h0
    obtain ⟨sa, hsa⟩ := hKK.2.2.2.2.2.2.2.1 t hmem
    have hne276 : t.1 ≠ 276 := fun z => by rw [z] at w1; exact absurd w1 (by decide +kernel)
    have e1 : t.2.2.2.2.1 = (xik t.2.2.1).1 := by rw [← w4]
    have e2 : t.2.2.2.2.2.2.1 = (xik t.2.2.1).2 := by rw [← w4]
    have hown' : s.vm.findClass RX9 = some m.cls := by rw [w1] at hown; exact hown
    have cr : mNc M + 1 - c0 ≤ R.cells := hcr
    have sr : mNs M + 6 - n0 ≤ R.slots := hsr
    have cm : mNc M + 1 - c0 ≤ mc := hc
    have sm : mNs M + 6 - n0 ≤ ms := hs
    have hfit : Bundle.fit (xen t.2.2.1) = true := by
      match t.2.2.1, w3 with
      | 0, _ => decide +kernel
      | 1, _ => decide +kernel
      | 2, _ => decide +kernel
    have hXX : ∀ t' : State, s.vm.Alike t'.vm → H.size ≤ t'.heap.size → (∀ q : Nat, q < H.size → t'.heap[q]? = H[q]?) → xX D dA ad A (.inr t.2.2.1, xseal M) (xen t.2.2.1) s t' := fun t' _ hz hq => by
      refine ⟨t.2.2.1, rfl, w3, rfl, ⟨hR.1.kept fun k x hk => hq x.1 ((hR.1 k x hk).lt), hR.2.1, (fun z => by cases z), hR.2.2.2⟩, ⟨Nat.le_trans hS.1 hz, fun q h1 h2 => (hq q (Nat.lt_of_lt_of_le h1 hS.1)).trans (hS.2.1 q h1 h2)⟩⟩
    have hgood : ∀ w ∈ Cond.classLink RX9 t.2.2.2.2.1 (xen t.2.2.1) :: Cond.initialized (xen t.2.2.1) :: vx_atS RX9 t.2.2.2.2.2.2.1 (xen t.2.2.1) xnames, vx_ot w = true := by
      intro w hw
      rcases List.mem_cons.mp hw with rfl | hw
      · rfl
      · rcases List.mem_cons.mp hw with rfl | hw
        · rfl
        · rw [e2] at hw; exact (xat_ok w3 w hw).2
    have hat : ∀ w ∈ vx_atS RX9 t.2.2.2.2.2.2.1 (xen t.2.2.1) xnames, w.before args s = true := fun w hw => by rw [e2] at hw; exact hts _ (xat_ok w3 w hw).1
    have hlk : (Cond.classLink RX9 t.2.2.2.2.1 (xen t.2.2.1)).before args s = true := by rw [e1]; exact hts _ (xlk_ok w3)
    have hout : ∀ pc', ∀ x ∈ c.exceptionTable.toList, covers x pc' = false := fun pc' x hx => (hh0 w2 hne276 x hx).elim
    have hA1 : mNc M - c0 + 1 ≤ R.cells := by omega
    have hA2 : mNs M - n0 + 6 ≤ R.slots := by omega
    have hA3 : mNc M - c0 + 1 ≤ mc := by omega
    have hA4 : mNs M - n0 + 6 ≤ ms := by omega
    rcases dd with ⟨⟨d4, d6⟩, d9⟩ | ⟨⟨d4, d7⟩, d10⟩
    · exact vx_throwS (names := xnames) hx hb hst hown' hfit (by decide +kernel) hlk (hts _ (xin_ok w3)) hsa hat hgood hKK.2.2.2.2.2.1 hKK.2.2.2.2.2.2.1 hS (hl.1.trans hml.symm) (xfetch_ok d0) (xfetch_ok d3) (xfetch_ok d4) (xfetch_ok d6) (xfetch_ok d9) (hout _) (by show 5 < _; omega) (by show 0 + (13 * 3 + 43) ≤ _; omega) hA1 hA2 hlocks hXX hS.2.2 hA3 hA4
    · exact vx_throwSW (names := xnames) hx hb hst hown' hfit (by decide +kernel) hlk (hts _ (xin_ok w3)) hsa hat hgood hKK.2.2.2.2.2.1 hKK.2.2.2.2.2.2.1 hS (hl.1.trans hml.symm) (xfetch_ok d0) (xfetch_ok d3) (xfetch_ok d4) (xfetch_ok d7) (xfetch_ok d10) (hout _) (by show 5 < _; omega) (by show 0 + (13 * 3 + 43) ≤ _; omega) hA1 hA2 hlocks hXX hS.2.2 hA3 hA4
  · cases h
end XT
section XZ
variable {p : Program} {l : Launch} {e : Env} {R : Room} {s : State} {m : MethodId} {args : Array Value} {below : List Frame} {meth : Method} {c : Code} {D : va_G} {dA : Nat → ClassId} {ad : Nat → Nat} {A : Nat → Prop} {S : Nat × (Nat → Int32)} {mi c0 n0 : Nat} {Q : State → Prop} {pc len : Nat} {lc : List (Nat × Value)} {M : xM} {H : Heap} {locs : List Loc} {ls : Array Slot}
theorem xcc_ok {i k w : Nat} (h : (i, k, w) ∈ xcc) : k < 3 ∧ i ≠ 0 ∧ Jvm.Cond.classLink (xclsN 11) i (xen k) ∈ kxT := by
  simp only [xcc, List.mem_cons, List.not_mem_nil, or_false, Prod.mk.injEq] at h
  rcases h with ⟨rfl, rfl, rfl⟩ | ⟨rfl, rfl, rfl⟩ | ⟨rfl, rfl, rfl⟩
  · exact ⟨by decide, by decide, xk 2 228 rfl rfl⟩
  · exact ⟨by decide, by decide, xk 2 229 rfl rfl⟩
  · exact ⟨by decide, by decide, xk 3 144 rfl rfl⟩
theorem xhnd_split {k : Nat} : ∀ {hh : List (Nat × Nat × Nat × Nat)} {hp : Nat}, xhnd hh pc k = some hp → ∃ (pre : List (Nat × Nat × Nat × Nat)) (x : Nat × Nat × Nat × Nat) (suf : List (Nat × Nat × Nat × Nat)) (w : Nat), hh = pre ++ x :: suf ∧ x.2.2.1 = hp ∧ x.1 ≤ pc ∧ pc < x.2.1 ∧ (x.2.2.2, k, w) ∈ xcc ∧ ∀ z ∈ pre, ∃ k' w', k' ≠ k ∧ (z.2.2.2, k', w') ∈ xcc := by
  intro hh
  induction hh with
  | nil => intro hp h; cases h
  | cons h0 r ih =>
    intro hp h
    unfold xhnd at h
    replace h := u_if h
    obtain ⟨⟨h1, h2⟩, h⟩ := h
    split at h
    · next q hq =>
      have hmem : (h0.2.2.2, q.1, q.2) ∈ xcc := by
        have := xfind_mem hq
        rw [List.mem_map] at this
        obtain ⟨z, hz, he⟩ := this
        have he' : (h0.2.2.2, q.1, q.2) = z := he.symm
        rw [he']; exact hz
      by_cases hk : q.1 = k
      · rw [if_pos hk] at h
        cases h
        exact ⟨[], h0, r, q.2, rfl, rfl, h1, h2, by rw [← hk]; exact hmem, fun z hz => by cases hz⟩
      · rw [if_neg hk] at h
        obtain ⟨pre, x, suf, w, e1, e2, e3, e4, e5, e6⟩ := ih h
        refine ⟨h0 :: pre, x, suf, w, by rw [e1]; rfl, e2, e3, e4, e5, fun z hz => ?_⟩
        rcases List.mem_cons.mp hz with rfl | hz
        · exact ⟨q.1, q.2, hk, hmem⟩
        · exact e6 z hz
    · cases h
/-- a throw that the law catches -/
theorem x_caught {k hp : Nat} {cx : Nat × List (Nat × Value)} {rest : List Value} {ce : Cell} {q : Addr} (C : xC p l R s m args meth c D dA ad A S mi) (hm11 : xown mi = 11) (hne : xhh mi ≠ []) (hh : xhnd (xhh mi) pc k = some hp) (hcx : xcatch mi hp lc = some cx) (hk : k < 3) (hce : H[q]? = some ce) (hcv : ce.vm = .none) (hcl : s.vm.findClass (xen k) = some ce.cls) (hl : lv_has ls (xnL mi) (xLl ad lc))
    (kk : ∀ ls' : Array Slot, lv_has ls' (xnL mi) (xLl ad cx.2) → W p l e R s m args below meth c H locs (mNc M - c0) (mNs M - n0) Q (F0 m cx.1 ls' [])) : vx_W p l e R s m args below meth c H locs (mNc M - c0) (mNs M - n0) Q (F0 m pc ls rest) q := by
  obtain ⟨hx, hb, hml, hown, hts, hKK, had, hlocks, -, -, hst, -, hh1⟩ := C
  obtain ⟨pre, x, suf, w, e1, e2, e3, e4, e5, e6⟩ := xhnd_split hh
  have htab := hh1 hne
  rw [e1] at htab
  obtain ⟨g1, g2, g3⟩ := xcc_ok e5
  refine vx_catch (own := xclsN (xown mi)) (name := xen k) (E := xen k) hown (tableOf pre) ⟨x.1, x.2.1, x.2.2.1, x.2.2.2⟩ (tableOf suf) (by rw [htab]; unfold tableOf; simp) ?_ ?_ g2 ?_ (hts _ (xca_ok hk)) hce hcv hcl ?_
  · intro z hz
    unfold tableOf at hz
    obtain ⟨z', hz', rfl⟩ := List.mem_map.mp hz
    obtain ⟨k', w', hkk, hin⟩ := e6 z' hz'
    obtain ⟨f1, f2, f3⟩ := xcc_ok hin
    exact Or.inr ⟨f2, xen k', by rw [hm11]; exact hts _ f3, hKK.2.2.2.2.2.2.2.2.1 k k' hk f1 (Ne.symm hkk)⟩
  · show (decide (x.1 ≤ pc) && decide (pc < x.2.1)) = true
    rw [decide_eq_true e3, decide_eq_true e4]; rfl
  · rw [hm11]; exact hts _ g3
  · show W _ _ _ _ _ _ _ _ _ _ _ _ _ _ _ (F0 m x.2.2.1 ls [.ref q])
    rw [e2]
    unfold xcatch at hcx
    split at hcx
    · next i hf =>
      replace hcx := u_if hcx
      obtain ⟨hi, hcx⟩ := hcx
      cases hcx
      refine lv_astore_n hx hb (xfetch_ok hf) rfl hl hi rfl (fun ls' hl' => kk ls' ?_)
      rw [xLl_drop1]
      exact ⟨hl'.1, hl'.2.1, fun z hz => hl'.2.2 z (List.mem_cons_of_mem _ hz)⟩
    · next i hf =>
      replace hcx := u_if hcx
      obtain ⟨hi, hcx⟩ := hcx
      cases hcx
      refine lv_astore hx hb (xfetch_ok hf) hl hi rfl (fun ls' hl' => kk ls' ?_)
      rw [xLl_drop1]
      exact ⟨hl'.1, hl'.2.1, fun z hz => hl'.2.2 z (List.mem_cons_of_mem _ hz)⟩
    · cases hcx
end XZ
theorem xhh_own_all : (List.range 277).all (fun mi => (xhh mi).isEmpty || xown mi == 11) = true := by decide +kernel
theorem xhh_own {mi : Nat} (hm : mi < 277) (h : xhh mi ≠ []) : xown mi = 11 := by
  have h0 := List.all_eq_true.mp xhh_own_all mi (List.mem_range.mpr hm)
  rw [Bool.or_eq_true, List.isEmpty_iff, beq_iff_eq] at h0
  exact h0.resolve_left h
/-- at fuel n: what the reader says of a frame, the machine does; Q takes the end -/
def xSnd (l : Launch) (D : va_G) (dA : Nat → ClassId) (ad : Nat → Nat) (A : Nat → Prop) (S : Nat × (Nat → Int32)) (n : Nat) : Prop :=
  ∀ (mi pc : Nat) (lc : List (Nat × Value)) (st : List Value) (M : xM) (o : xO), xrun (some S) n mi pc lc st M = some o →
    ∀ (p : Program) (e : Env) (R : Room) (s : State) (m : MethodId) (args : Array Value) (below : List Frame) (meth : Method) (c : Code) (c0 n0 mc ms : Nat) (Q : State → Prop), xC p l R s m args meth c D dA ad A S mi → mi < 277 → c0 ≤ mNc M → n0 ≤ mNs M → mNc o.2 - c0 ≤ R.cells → mNs o.2 - n0 ≤ R.slots → mNc o.2 - c0 ≤ mc → mNs o.2 - n0 ≤ ms → xrk mi + 1 ≤ R.frames → 32 * xrk mi + 124 ≤ R.locals →
      (∀ (k : Nat), o.1 = .inr k → mi ≠ 276 ∧ Q = vx_MQ below (xQ D dA ad A o) (xX D dA ad A o) args s mc ms A) →
      (∀ (ins : Instr) (len pc' : Nat) (lc' : List (Nat × Value)) (st' : List Value) (v : Option Value), o.1 = .inl v → decode (xcode mi) pc' = .ok (ins, len) → xend ins len mi st' = some v → xG p l e R s m args below meth c D dA ad A mi c0 n0 Q (pc', lc', st', o.2)) →
      xG p l e R s m args below meth c D dA ad A mi c0 n0 Q (pc, lc, st, M)
theorem xSnd_met {l : Launch} {D : va_G} {dA : Nat → ClassId} {ad : Nat → Nat} {A : Nat → Prop} {S : Nat × (Nat → Int32)} {n : Nat} (hst : l.stackTraces = false) (had : xAd ad A) (h : xSnd l D dA ad A S n) {mi : Nat} {As : List Value} {M : xM} {o : xO} (hr : xrun (some S) n mi 0 (lv_args 0 As) [] M = some o) (hlen : ∀ q, xme mi = some q → (lg_sl (As.map (xL ad))).length ≤ q.2.2.2.1) : xMet l D dA ad A S mi As M o := by
  intro q hq hn
  obtain ⟨u1, u2, u3, u4, u5, u6, u7⟩ := xcode_of hq
  obtain ⟨p1, p2, p3, p4, p5, p6⟩ := xmP_of hq
  have hmono := xrun_mono (some S) n mi 0 _ _ M o hr
  have hargs : lv_args 0 (As.map (xL ad)) = xLl ad (lv_args 0 As) := by
    have : ∀ (i : Nat) (vs : List Value), lv_args i (vs.map (xL ad)) = xLl ad (lv_args i vs) := by
      intro i vs
      induction vs generalizing i with
      | nil => rfl
      | cons v vs ih => simp only [List.map_cons, lv_args, xL_cat, ih]; rfl
    exact this 0 As
  have body : ∀ (p : Program) (e : Env) (s : State) (m : MethodId) (args : Array Value) (below : List Frame) (meth : Method) (c : Code), xC p l (xrm (xrk mi) (mNc o.2 - mNc M) (mNs o.2 - mNs M)) s m args meth c D dA ad A S mi → args = (As.map (xL ad)).toArray → xRel D dA ad M s.heap →
      W p l e (xrm (xrk mi) (mNc o.2 - mNc M) (mNs o.2 - mNs M)) s m args below meth c s.heap [] 0 0 (vx_MQ below (xQ D dA ad A o) (xX D dA ad A o) args s (mNc o.2 - mNc M) (mNs o.2 - mNs M) A) (entryFrame m args q.2.2.2.1) := by
    intro p e s m args below meth c C ha hR
    have hl := lv_entry (As.map (xL ad)) (n := q.2.2.2.1) (hlen q hq)
    rw [hargs] at hl
    rw [ha, lg_entry_eq]
    rw [ha] at C
    generalize ((lg_sl (As.map (xL ad)) ++ List.replicate (q.2.2.2.1 - (lg_sl (As.map (xL ad))).length) Slot.unset).toArray) = ls at hl ⊢
    have key := h mi 0 _ _ M o hr p e _ s m _ below meth c (mNc M) (mNs M) (mNc o.2 - mNc M) (mNs o.2 - mNs M) (vx_MQ below (xQ D dA ad A o) (xX D dA ad A o) (As.map (xL ad)).toArray s (mNc o.2 - mNc M) (mNs o.2 - mNs M) A) C (by omega) (Nat.le_refl _) (Nat.le_refl _) (Nat.le_refl _) (Nat.le_refl _) (Nat.le_refl _) (Nat.le_refl _) (Nat.le_refl _) (Nat.le_refl _) (fun _ _ => ⟨by omega, rfl⟩) (fun ins len pc' lc' st' v ho hd he => by
      obtain ⟨o1, o2⟩ := o
      dsimp only at ho
      subst ho
      exact xend_ok C hd he rfl (Nat.le_refl _) (Nat.le_refl _))
    have k2 := key s.heap [] ls hR va_S.rf (by rw [u4]; exact hl)
    dsimp only at k2
    rw [Nat.sub_self, Nat.sub_self] at k2
    exact k2
  have mkC : ∀ {p : Program} {e : Env} {s s₁ : State} {m : MethodId} {args : Array Value} {below : List Frame} {meth : Method} {c : Code} {w : Cond}, BodyLoose p l (xnam mi) (headSpec [w] (xrm (xrk mi) (mNc o.2 - mNc M) (mNs o.2 - mNs M))) q.2.2.1 q.2.2.2.1 q.2.2.2.2.1 e s m args below meth c s₁ → c.maxLocals = q.2.2.2.1 → xPc D dA ad A S As M args s → (xhh mi = [] → mi ≠ 276 → ∀ x ∈ c.exceptionTable.toList, False) → (xhh mi ≠ [] → c.exceptionTable.toList = tableOf (xhh mi)) → xC p l (xrm (xrk mi) (mNc o.2 - mNc M) (mNs o.2 - mNs M)) s m args meth c D dA ad A S mi := by
    intro p e s s₁ m args below meth c w B hml hP h1 h2
    refine ⟨B.exec, by rw [u3]; exact B.bytes, by rw [u4]; exact hml, ?_, fun w hw => kx_use (hP.2.2.2.1 w hw) (List.mem_filter.mp hw).2 args, hP.2.2, had, B.notSynchronized, by rw [u5]; exact B.returns, ?_, hst, h1, h2⟩
    · have := findClass_of_methodNamed B.named
      rw [u2, p2] at this
      rw [u1]
      exact this
    · exact fun z => (name_of_methodNamed B.named B.method).1.trans z
  by_cases hh : q.2.2.2.2.2.2.2 = []
  · have hcw : xcw q = .code q.2.1 q.2.2.1 q.2.2.2.1 q.2.2.2.2.1 := by unfold xcw; rw [if_pos hh]
    rw [hcw, u2]
    refine MetFree.of_bodySF (code := q.2.2.1) (maxLocals := q.2.2.2.1) (ret := q.2.2.2.2.1) p1 ?_ ?_
    · intro args s m h hn
      obtain ⟨meth, c, h1, h2, h3, h4, h5, h6, -, -⟩ := Cond.code_spec hn (atoms_spec (ws := [Cond.code q.2.1 q.2.2.1 q.2.2.2.1 q.2.2.2.2.1]) h _ List.mem_cons_self)
      exact ⟨meth, c, h1, h2, h3, h4, h5, h6⟩
    · intro p e s m args below meth c s₁ B hml hP _
      have hh0 : s₁.heap = s.heap := by rw [B.state]; rfl
      have ht : ∀ x ∈ c.exceptionTable.toList, False := by
        obtain ⟨meth9, c9, h1, h2, -, -, -, -, h7, -⟩ := Cond.code_spec B.named (atoms_spec (ws := [Cond.code q.2.1 q.2.2.1 q.2.2.2.1 q.2.2.2.2.1]) B.pre _ List.mem_cons_self)
        cases Option.some.inj (h1.symm.trans B.method)
        cases Option.some.inj (h2.symm.trans (Stand.of_body B).code)
        intro x hx
        rw [Array.isEmpty_iff.mp h7] at hx
        cases hx
      rw [← u2] at B
      obtain ⟨t, a1, o', b1, b2, b3⟩ := body p e s m args below meth c (mkC B hml hP (fun _ _ => ht) (fun z => absurd (u7.trans hh) z)) hP.1 hP.2.1 s₁ hh0 (Stand.of_body B)
      exact ⟨t, o', a1, b1, b2, b3⟩
  · have hcw : xcw q = .codeWith q.2.1 q.2.2.1 q.2.2.2.1 q.2.2.2.2.1 q.2.2.2.2.2.2.2 := by unfold xcw; rw [if_neg hh]
    have hne : xhh mi ≠ [] := by rw [u7]; exact hh
    have h11 : q.1 = 11 := by rw [← u1]; exact xhh_own (by omega) hne
    rw [hcw]
    refine vx_ofWH (cc := q.2.2.1) (maxL := q.2.2.2.1) (ret := q.2.2.2.2.1) (ws' := []) (by rw [u2, p2, h11]; decide +kernel) (by rw [u2]) fun p e s m args below meth c s₁ B hml hP => ?_
    exact body p e s m args below meth c (mkC B hml hP (fun z => absurd z hne) (fun _ => by
      have h9 := atoms_spec (ws := [Cond.codeWith q.2.1 q.2.2.1 q.2.2.2.1 q.2.2.2.2.1 q.2.2.2.2.2.2.2]) B.pre _ List.mem_cons_self
      rw [← u2] at h9
      rw [u7]
      exact vx_table (x := xnam mi) B h9)) hP.1 hP.2.1
theorem xlen_map (ad : Nat → Nat) (vs : List Value) : (lg_sl (vs.map (xL ad))).length = (lg_sl vs).length := by
  induction vs with
  | nil => rfl
  | cons v vs ih =>
    have e : ∀ (v : Value) (vs : List Value), lg_sl (v :: vs) = (if v.category = 2 then [.val v, .second] else [.val v]) ++ lg_sl vs := fun _ _ => rfl
    rw [List.map_cons, e, e, List.length_append, List.length_append, ih, xL_cat]
    split <;> rfl
set_option maxHeartbeats 4000000 in
theorem xSnd_all {l : Launch} {D : va_G} {dA : Nat → ClassId} {ad : Nat → Nat} {A : Nat → Prop} {S : Nat × (Nat → Int32)} (hst : l.stackTraces = false) (had : xAd ad A) : ∀ n, xSnd l D dA ad A S n := by
  intro n
  induction n with
  | zero => intro mi pc lc st M o h; cases h
  | succ n ih =>
    intro mi pc lc0 st M0 o h p e R s m args below meth c c0 n0 mc ms Q C hm hc0 hn0 hcr hsr hcm hsm hfr hlr hQx hQr
    refine xG_arr ?_
    obtain ⟨q1, q2⟩ := xsl_c mi pc M0
    rw [← q1] at hc0
    rw [← q2] at hn0
    have hmono := xrun_mono (some S) (n + 1) mi pc lc0 st M0 o h
    rw [← q1, ← q2] at hmono
    unfold xrun at h
    dsimp only at h
    generalize xsl mi pc M0 = M at h hc0 hn0 hmono ⊢
    generalize xpr mi pc lc0 = lc at h ⊢
    split at h
    · cases h
    · next ins len hf =>
      have hd := xfetch_ok hf
      split at h
      · next k hk =>
        replace h := u_if h
        obtain ⟨⟨hd5, hst0⟩, h⟩ := h
        subst hst0
        cases h
        rw [(hQx k rfl).2]
        exact x_throw C hk hc0 hn0 hcm hsm hcr hsr (by omega) (by omega)
      · split at h
        · next v hv =>
          cases h
          exact hQr ins len pc lc st v rfl hd hv
        · split at h
          · next F hF =>
            have hms := xs_mono hF
            have hmr := xrun_mono (some S) n mi _ _ _ _ o h
            refine xs_ok (S' := some S) (fun z hz => (Option.some.inj hz).symm) C hd hF hc0 hn0 (by omega) (by omega) (by omega) (by omega) ?_
            exact ih mi F.1 F.2.1 F.2.2.1 F.2.2.2 o h p e R s m args below meth c c0 n0 mc ms Q C hm (by omega) (by omega) hcr hsr hcm hsm hfr hlr hQx hQr
          · split at h
            · cases h
            · next q hq =>
              replace h := u_if h
              obtain ⟨⟨hlen, hrk⟩, h⟩ := h
              have hmet : ∀ o', xrun (some S) n q.1 0 (lv_args 0 q.2.1) [] M = some o' → xMet l D dA ad A S q.1 q.2.1 M o' := fun o' ho' => xSnd_met hst had ih ho' (fun z hz => by rw [xlen_map, ← (xcode_of hz).2.2.2.1]; exact hlen)
              intro H locs ls hR hS hl
              split at h
              · cases h
              · next v M' hr =>
                have m1 := xrun_mono (some S) n q.1 _ _ _ _ _ hr
                have m2 := xrun_mono (some S) n mi _ _ _ _ o h
                obtain ⟨rfl, a, hrun⟩ := x_call (c0 := c0) (n0 := n0) (M := M) C hd hq (hmet _ hr) (fun _ => ⟨v, rfl⟩) (by omega) (by omega) (by dsimp only at *; omega) (by dsimp only at *; omega) hR hS hl
                refine x_back (M := M) (M' := M') hrun hS hl (by dsimp only at *; omega) (by dsimp only at *; omega) ?_
                exact ih mi (pc + 3) lc (v.toList ++ q.2.2.1) M' o h p e R s m args below meth c c0 n0 mc ms Q C hm (by dsimp only at *; omega) (by dsimp only at *; omega) hcr hsr hcm hsm hfr hlr hQx hQr
              · next k M' hr =>
                have m1 := xrun_mono (some S) n q.1 _ _ _ _ _ hr
                dsimp only at m1
                replace h := u_if h
                obtain ⟨hfl, h⟩ := h
                split at h
                · next hnil =>
                  cases h
                  dsimp only at hcr hsr hcm hsm
                  obtain ⟨rfl, a, hrun⟩ := x_call (c0 := c0) (n0 := n0) (M := M) C hd hq (hmet _ hr) (fun z => by rw [hfl] at z; cases z) (by omega) (by omega) (by dsimp only; omega) (by dsimp only; omega) hR hS hl
                  refine x_thrown (M := M) (M' := M') hrun hS (by dsimp only; omega) (by dsimp only; omega) fun H1 locs1 ce q9 hR1 hS1 hk3 hce hcv hcl => ?_
                  rw [(hQx k rfl).2]
                  obtain ⟨-, -, -, -, -, -, -, hlocks, -, -, -, hh0, -⟩ := id C
                  exact vx_out (fun x hx => (hh0 hnil (hQx k rfl).1 x hx).elim) hlocks hce hcv hcl (fun t ht _ => ⟨k, rfl, hk3, rfl, by rw [ht]; exact hR1, hS1.F ht⟩) hS1.2.2 (by omega) (by omega)
                · next h0 hs0 hcons =>
                  split at h
                  · cases h
                  · next hp hhp =>
                    split at h
                    · cases h
                    · next cx hcx =>
                      have m2 := xrun_mono (some S) n mi _ _ _ _ o h
                      have hne : xhh mi ≠ [] := by rw [hcons]; exact List.cons_ne_nil _ _
                      obtain ⟨rfl, a, hrun⟩ := x_call (c0 := c0) (n0 := n0) (M := M) C hd hq (hmet _ hr) (fun z => by rw [hfl] at z; cases z) (by omega) (by omega) (by dsimp only; omega) (by dsimp only; omega) hR hS hl
                      refine x_thrown (M := M) (M' := M') hrun hS (by dsimp only; omega) (by dsimp only; omega) fun H1 locs1 ce q9 hR1 hS1 hk3 hce hcv hcl => ?_
                      refine x_caught C (xhh_own hm hne) hne (by rw [hcons]; exact hhp) hcx hk3 hce hcv hcl hl fun ls' hl' => ?_
                      exact ih mi cx.1 cx.2 [] M' o h p e R s m args below meth c c0 n0 mc ms Q C hm (by omega) (by omega) hcr hsr hcm hsm hfr hlr hQx hQr H1 locs1 ls' hR1 hS1 hl'
