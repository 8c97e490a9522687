/-! ===== the law's start, run from an empty memory ===== -/
section RAW
variable {S : Option (Nat × (Nat → Int32))} {mi pc len n mj : Nat} {ins : Instr} {l : List (Nat × Value)} {st : List Value} {M M' : xM} {F : xF} {o : xO} {F3 : xF3}
theorem rw_A (h : xstepA ins len mi pc l st = some F3) : xstep S ins len mi pc l st M = some (F3.1, F3.2.1, F3.2.2, M) := by
  unfold xstep; rw [h]; rfl
theorem rw_step (hf : xfetch mi pc = some (ins, len)) (hp : xpr mi pc l = l) (hm : ¬ (mi = 276 ∧ pc = 23)) (ht : xthr ins mi pc = none) (he : xend ins len mi st = none) (hs : xstep S ins len mi pc l st M = some F) (h : ∃ n, xrun S n mi F.1 F.2.1 F.2.2.1 F.2.2.2 = some o) : ∃ n, xrun S n mi pc l st M = some o := by
  obtain ⟨n, h⟩ := h
  refine ⟨n + 1, ?_⟩
  have hx : xsl mi pc M = M := by unfold xsl; rw [if_neg hm]
  unfold xrun
  dsimp only
  rw [hp, hx, hf]
  dsimp only
  rw [ht]
  dsimp only
  rw [he]
  dsimp only
  rw [hs]
  exact h
theorem rw_call {args rest : List Value} {flag : Bool} {n1 : Nat} {v : Option Value} (hf : xfetch mi pc = some (ins, len)) (hp : xpr mi pc l = l) (hm : ¬ (mi = 276 ∧ pc = 23)) (ht : xthr ins mi pc = none) (he : xend ins len mi st = none) (hs : xstep S ins len mi pc l st M = none) (hc : xcall ins len mi st M = some (mj, args, rest, flag)) (hl : (lg_sl args).length ≤ xnL mj) (hk : xrk mj + 1 ≤ xrk mi) (h1 : xrun none n1 mj 0 (lv_args 0 args) [] M = some (.inl v, M')) (h : ∃ n, xrun S n mi (pc + 3) l (v.toList ++ rest) M' = some o) : ∃ n, xrun S n mi pc l st M = some o := by
  obtain ⟨n2, h⟩ := h
  refine ⟨max n1 n2 + 1, ?_⟩
  have hx : xsl mi pc M = M := by unfold xsl; rw [if_neg hm]
  unfold xrun
  dsimp only
  rw [hp, hx, hf]
  dsimp only
  rw [ht]
  dsimp only
  rw [he]
  dsimp only
  rw [hs]
  dsimp only
  rw [hc]
  dsimp only
  rw [if_pos ⟨hl, hk⟩, xrun_fuel _ _ _ _ _ _ _ _ (xrun_lift S _ _ _ _ _ _ _ h1) _ (Nat.le_max_left ..)]
  exact xrun_fuel _ _ _ _ _ _ _ _ h _ (Nat.le_max_right ..)
theorem rw_new {i k w : Nat} (hf : xfetch mi pc = some (.new i, 3)) (hp : xpr mi pc l = l) (hm : ¬ (mi = 276 ∧ pc = 23)) (ht : xthr (.new i) mi pc = none) (hM : mSe M = false) (hq : (xfind (xnw (xown mi)) i).map (fun q => q.1) = some k) (hw : (xfk k).length = w) (h : ∃ n, xrun S n mi (pc + 3) l (.ref (mNx M) :: st) (xnew M (4 + k, 0) w) = some o) : ∃ n, xrun S n mi pc l st M = some o := by
  obtain ⟨q, q1, q2⟩ := Option.map_eq_some_iff.mp hq
  refine rw_step hf hp hm ht rfl (st_C rfl rfl rfl (F := (pc + 3, l, .ref (mNx M) :: st, xnew M (4 + k, 0) w)) ?_) h
  show (if 3 = 3 ∧ mSe M = false then (xfind (xnw (xown mi)) i).bind _ else none) = _
  rw [if_pos ⟨rfl, hM⟩, q1]
  show some (pc + 3, l, Value.ref (mNx M) :: st, xnew M (4 + q.1, 0) (xfk q.1).length) = _
  rw [q2, hw]
theorem rw_init {i a n1 : Nat} (hf : xfetch mi pc = some (.invokespecial i, 3)) (hp : xpr mi pc l = l) (hm : ¬ (mi = 276 ∧ pc = 23)) (ho : xoi (xown mi) = none) (hq : (xfind (xct (xown mi)) i).map (fun q => (q.1, q.2.1)) = some (2, mj) ∨ (xfind (xct (xown mi)) i).map (fun q => (q.1, q.2.1)) = some (5, mj)) (hn : xnp mj = 0) (hl : 1 ≤ xnL mj) (hk : xrk mj + 1 ≤ xrk mi) (hst : (st.map fun v => v.category).sum ≤ 8) (h1 : xrun none n1 mj 0 [(0, .ref a)] [] M = some (.inl none, M')) (h : ∃ n, xrun S n mi (pc + 3) l st M' = some o) : ∃ n, xrun S n mi pc l (.ref a :: st) M = some o := by
  have hqq : ∃ q, xfind (xct (xown mi)) i = some q ∧ (q.1 = 2 ∨ q.1 = 5) ∧ q.2.1 = mj := by
    rcases hq with hq | hq
    · obtain ⟨q, q1, q2⟩ := Option.map_eq_some_iff.mp hq
      exact ⟨q, q1, .inl (congrArg (fun z => z.1) q2), congrArg (fun z => z.2) q2⟩
    · obtain ⟨q, q1, q2⟩ := Option.map_eq_some_iff.mp hq
      exact ⟨q, q1, .inr (congrArg (fun z => z.1) q2), congrArg (fun z => z.2) q2⟩
  obtain ⟨q, q1, q2, q3⟩ := hqq
  refine rw_call (mj := mj) (args := [.ref a]) (rest := st) (flag := false) (v := none) (n1 := n1) hf hp hm rfl rfl ?_ ?_ (by show 1 ≤ _; exact hl) hk h1 h
  · unfold xstep
    have e : xstepO (.invokespecial i) 3 mi pc l (.ref a :: st) = none := by
      show (if 3 = 3 then (xoi (xown mi)).bind _ else none) = _
      rw [if_pos rfl, ho]
      rfl
    rw [e]
    rfl
  · show (if 3 = 3 then (xfind (xct (xown mi)) i).bind _ else none) = _
    rw [if_pos rfl, q1]
    show (if (q.1 = 2 ∨ q.1 = 5) then (match (Value.ref a :: st).drop (xnp q.2.1) with
      | .ref b :: r => if ((Value.ref a :: st).take (xnp q.2.1)).length = xnp q.2.1 ∧ (r.map fun v => v.category).sum ≤ 8 then some (q.2.1, Value.ref b :: ((Value.ref a :: st).take (xnp q.2.1)).reverse, r, false) else none
      | _ => none) else none) = _
    rw [if_pos q2, q3, hn]
    show (if 0 = 0 ∧ (st.map fun v => v.category).sum ≤ 8 then some (mj, [Value.ref a], st, false) else none) = _
    exact if_pos ⟨rfl, hst⟩
end RAW
theorem rw_head {S : Option (Nat × (Nat → Int32))} {MA MB : xM} {na nb : Nat} {o : xO} (h0 : xrun none na 0 0 [(0, .ref 2)] [] (xnew xM0 (13, 0) 13) = some (.inl none, MA)) (h1 : xrun none nb 176 0 [(0, .ref (mNx MA))] [] (xnew MA (14, 0) 30) = some (.inl none, MB)) (hA : mSe MA = false) (hB : mSe MB = false) (nA : mNx MA = 252) (nB : mNx MB = 275)
    (h : ∃ n, xrun S n 276 23 [(0, rf 0), (1, rf 2), (2, rf 252), (3, rf 275), (4, iv 0)] [] (xnew MB (2, 1) 1) = some o) : ∃ n, xrun S n 276 0 [(0, .ref 0)] [] xM0 = some o := by
  obtain ⟨p1, p2, p3, p4, p5, p6, p7, p8⟩ := q_276_n
  have hc : ∀ pc, pc ∈ [0, 3, 4, 7, 8, 11, 12, 15, 16, 17, 19, 20, 21] → ∀ l, xpr 276 pc l = l := fun pc hpc l => xpr_no (q_276_c pc hpc) l
  refine rw_new q_276_0 (hc _ (by decide) _) (by decide) q_276_t.1 rfl q_276_w.1 q_276_w.2.2.1 ?_
  show ∃ n, xrun S n 276 3 [(0, .ref 0)] [.ref 2] (xnew xM0 (13, 0) 13) = some o
  refine rw_step q_276_3 (hc _ (by decide) _) (by decide) rfl rfl (rw_A (F3 := (4, [(0, .ref 0)], [.ref 2, .ref 2])) rfl) ?_
  show ∃ n, xrun S n 276 4 [(0, .ref 0)] [.ref 2, .ref 2] (xnew xM0 (13, 0) 13) = some o
  refine rw_init q_276_4 (hc _ (by decide) _) (by decide) p8 q_276_m.1 p1 p3 p5 (by decide) h0 ?_
  show ∃ n, xrun S n 276 7 [(0, .ref 0)] [.ref 2] MA = some o
  refine rw_step q_276_7 (hc _ (by decide) _) (by decide) rfl rfl (rw_A (F3 := (8, [(0, .ref 0), (1, .ref 2)], [])) ?_) ?_
  · show (if 1 = 1 ∧ 1 < xnL 276 then _ else none) = _
    rw [if_pos ⟨rfl, by omega⟩]; rfl
  show ∃ n, xrun S n 276 8 [(0, .ref 0), (1, .ref 2)] [] MA = some o
  refine rw_new q_276_8 (hc _ (by decide) _) (by decide) q_276_t.2 hA q_276_w.2.1 q_276_w.2.2.2 ?_
  show ∃ n, xrun S n 276 11 [(0, .ref 0), (1, .ref 2)] [.ref (mNx MA)] (xnew MA (14, 0) 30) = some o
  refine rw_step q_276_11 (hc _ (by decide) _) (by decide) rfl rfl (rw_A (F3 := (12, [(0, .ref 0), (1, .ref 2)], [.ref (mNx MA), .ref (mNx MA)])) rfl) ?_
  show ∃ n, xrun S n 276 12 [(0, .ref 0), (1, .ref 2)] [.ref (mNx MA), .ref (mNx MA)] (xnew MA (14, 0) 30) = some o
  refine rw_init q_276_12 (hc _ (by decide) _) (by decide) p8 q_276_m.2 p2 p4 p6 (by show 1 ≤ 8; decide) h1 ?_
  show ∃ n, xrun S n 276 15 [(0, .ref 0), (1, .ref 2)] [.ref (mNx MA)] MB = some o
  rw [nA]
  refine rw_step q_276_15 (hc _ (by decide) _) (by decide) rfl rfl (rw_A (F3 := (16, [(0, .ref 0), (1, .ref 2), (2, .ref 252)], [])) ?_) ?_
  · show (if 1 = 1 ∧ 2 < xnL 276 then _ else none) = _
    rw [if_pos ⟨rfl, by omega⟩]; rfl
  show ∃ n, xrun S n 276 16 [(0, .ref 0), (1, .ref 2), (2, .ref 252)] [] MB = some o
  refine rw_step q_276_16 (hc _ (by decide) _) (by decide) rfl rfl (rw_A (F3 := (17, [(0, .ref 0), (1, .ref 2), (2, .ref 252)], [iv 1])) rfl) ?_
  show ∃ n, xrun S n 276 17 [(0, .ref 0), (1, .ref 2), (2, .ref 252)] [iv 1] MB = some o
  refine rw_step q_276_17 (hc _ (by decide) _) (by decide) rfl rfl (st_C rfl rfl rfl (F := (19, [(0, .ref 0), (1, .ref 2), (2, .ref 252)], [.ref (mNx MB)], xnew MB (2, 1) 1)) ?_) ?_
  · show (if 2 = 2 ∧ mSe MB = false then _ else none) = _
    rw [if_pos ⟨rfl, hB⟩]
    rfl
  show ∃ n, xrun S n 276 19 [(0, .ref 0), (1, .ref 2), (2, .ref 252)] [.ref (mNx MB)] (xnew MB (2, 1) 1) = some o
  rw [nB]
  refine rw_step q_276_19 (hc _ (by decide) _) (by decide) rfl rfl (rw_A (F3 := (20, [(0, .ref 0), (1, .ref 2), (2, .ref 252), (3, .ref 275)], [])) ?_) ?_
  · show (if 1 = 1 ∧ 3 < xnL 276 then _ else none) = _
    rw [if_pos ⟨rfl, by omega⟩]; rfl
  show ∃ n, xrun S n 276 20 [(0, .ref 0), (1, .ref 2), (2, .ref 252), (3, .ref 275)] [] (xnew MB (2, 1) 1) = some o
  refine rw_step q_276_20 (hc _ (by decide) _) (by decide) rfl rfl (rw_A (F3 := (21, [(0, .ref 0), (1, .ref 2), (2, .ref 252), (3, .ref 275)], [iv 0])) rfl) ?_
  show ∃ n, xrun S n 276 21 [(0, .ref 0), (1, .ref 2), (2, .ref 252), (3, .ref 275)] [iv 0] (xnew MB (2, 1) 1) = some o
  refine rw_step q_276_21 (hc _ (by decide) _) (by decide) rfl rfl (rw_A (F3 := (23, [(0, .ref 0), (1, .ref 2), (2, .ref 252), (3, .ref 275), (4, iv 0)], [])) ?_) ?_
  · show (if 2 = 2 ∧ 4 < xnL 276 then _ else none) = _
    rw [if_pos ⟨rfl, by omega⟩]; rfl
  exact h
