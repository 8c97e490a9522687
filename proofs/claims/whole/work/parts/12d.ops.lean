/-! ===== wp: what a place in the code wants, ints being Int ===== -/
abbrev i32 (z : Int) : Int32 := Int32.ofInt z
abbrev iv (z : Int) : Value := .int (i32 z)
abbrev rf (a : Int) : Value := .ref a.toNat
abbrev orf (a : Int) : Value := xrv (if a < 0 then none else some a.toNat)
abbrev rng (z : Int) : Prop := -2147483648 ≤ z ∧ z ≤ 2147483647
/-- ints, longs, cells and slots made -/
abbrev zSt : Type := (Int → Int → Int) × (Int → Int → Int64) × (Nat × Nat)
def zI (s : zSt) (a j : Int) : Int := s.1 a j
def zL (s : zSt) (a j : Int) : Int64 := s.2.1 a j
def zc (s : zSt) : Nat := s.2.2.1
def zn (s : zSt) : Nat := s.2.2.2
def zwI (s : zSt) (a j v : Int) : zSt := (fun b k => if b = a ∧ k = j then v else s.1 b k, s.2)
def zwL (s : zSt) (a j : Int) (v : Int64) : zSt := (s.1, fun b k => if b = a ∧ k = j then v else s.2.1 b k, s.2.2)
/-- n of b's ints into a -/
def zwC (s : zSt) (a b n : Int) : zSt := (fun c k => if c = a ∧ 0 ≤ k ∧ k < n then s.1 b k else s.1 c k, s.2)
def zbump (s : zSt) : zSt := (s.1, s.2.1, s.2.2.1 + 1, s.2.2.2 + 6)
theorem zSR_ex : ∃ q : (Nat → xSh) × (Nat → Nat → Option Nat), q.1 = mSh zMe ∧ q.2 = mR zMe := ⟨(mSh zMe, mR zMe), rfl, rfl⟩
noncomputable def zSH : Nat → xSh := (Classical.choose zSR_ex).1
noncomputable def zRV : Nat → Nat → Option Nat := (Classical.choose zSR_ex).2
theorem zSH_eq : zSH = mSh zMe := (Classical.choose_spec zSR_ex).1
theorem zRV_eq : zRV = mR zMe := (Classical.choose_spec zSR_ex).2
noncomputable def mk (s : zSt) : xM := ((true, 276, zc s, zn s), zSH, fun a j => i32 (zI s a j), fun a j => zL s a j, zRV)
def Wf (s : zSt) : Prop := ∀ a j, rng (zI s a j)
def wp (S : Option (Nat × (Nat → Int32))) (mi pc : Nat) (l : List (Nat × Value)) (st : List Value) (s : zSt) (Q : Option Value ⊕ Nat → zSt → Prop) : Prop :=
  Wf s → ∃ n o s', xrun S n mi pc l st (mk s) = some (o, mk s') ∧ Wf s' ∧ Q o s'
/-- an object of class c; an array of kind k and length n -/
def isO (a : Int) (c : Nat) : Prop := 2 ≤ a ∧ a < 276 ∧ (zsh.getD a.toNat (0, 0)).1 = 4 + c
def isA (a : Int) (k n : Nat) : Prop := 2 ≤ a ∧ a < 276 ∧ zsh.getD a.toNat (0, 0) = (k, n)
theorem i32_to (z : Int) (h : rng z) : (i32 z).toInt = z := by
  exact Int32.toInt_ofInt_of_le (by omega) (by omega)
theorem i32_of (x : Int32) : i32 x.toInt = x := Int32.ofInt_toInt x
theorem zt_all : (∀ a, a < 276 → zSH a = zsh.getD a (0, 0)) ∧ (∀ a, a < 276 → ∀ k, k ∈ zks a → zRV a k = zrv a k) := by
  rw [zSH_eq, zRV_eq]
  have h := zMe_tab
  simp only [Bool.and_eq_true, List.all_eq_true, beq_iff_eq, List.mem_range] at h
  exact ⟨fun a ha => (h.2.2.2.2.2.2 a ha).1, fun a ha => (h.2.2.2.2.2.2 a ha).2⟩
theorem isO_sh {a : Int} {c : Nat} (h : isO a c) : 2 ≤ a.toNat ∧ a.toNat < 276 ∧ (zSH a.toNat).1 = 4 + c := by
  obtain ⟨h1, h2, h3⟩ := h
  have e : a.toNat < 276 := by omega
  exact ⟨by omega, e, by rw [zt_all.1 _ e]; exact h3⟩
theorem isA_sh {a : Int} {k n : Nat} (h : isA a k n) : 2 ≤ a.toNat ∧ a.toNat < 276 ∧ zSH a.toNat = (k, n) := by
  obtain ⟨h1, h2, h3⟩ := h
  have e : a.toNat < 276 := by omega
  exact ⟨by omega, e, by rw [zt_all.1 _ e]; exact h3⟩
theorem zI_wI (s : zSt) (a j v b k : Int) : zI (zwI s a j v) b k = if b = a ∧ k = j then v else zI s b k := rfl
theorem zI_wL (s : zSt) (a j : Int) (v : Int64) (b k : Int) : zI (zwL s a j v) b k = zI s b k := rfl
theorem zL_wL (s : zSt) (a j : Int) (v : Int64) (b k : Int) : zL (zwL s a j v) b k = if b = a ∧ k = j then v else zL s b k := rfl
theorem zL_wI (s : zSt) (a j v b k : Int) : zL (zwI s a j v) b k = zL s b k := rfl
theorem zI_wC (s : zSt) (a b n c k : Int) : zI (zwC s a b n) c k = if c = a ∧ 0 ≤ k ∧ k < n then zI s b k else zI s c k := rfl
theorem zL_wC (s : zSt) (a b n c k : Int) : zL (zwC s a b n) c k = zL s c k := rfl
theorem zI_bump (s : zSt) (a j : Int) : zI (zbump s) a j = zI s a j := rfl
theorem zL_bump (s : zSt) (a j : Int) : zL (zbump s) a j = zL s a j := rfl
theorem mk_I (s : zSt) (a j : Nat) : mI (mk s) a j = i32 (zI s a j) := rfl
theorem mk_L (s : zSt) (a j : Nat) : mL (mk s) a j = zL s a j := rfl
theorem mk_sh (s : zSt) (a : Nat) : mSh (mk s) a = zSH a := rfl
theorem mk_R (s : zSt) (a k : Nat) : mR (mk s) a k = zRV a k := rfl
theorem mk_nx (s : zSt) : mNx (mk s) = 276 := rfl
theorem mk_se (s : zSt) : mSe (mk s) = true := rfl
theorem mk_wI (s : zSt) (a j v : Int) (ha : 0 ≤ a) (hj : 0 ≤ j) : wI (mk s) a.toNat j.toNat (i32 v) = mk (zwI s a j v) := by
  unfold wI mk
  refine Prod.ext rfl (Prod.ext rfl (Prod.ext ?_ rfl))
  funext b k
  show up2 _ _ _ _ b k = i32 (zI (zwI s a j v) b k)
  rw [zI_wI]
  unfold up2
  by_cases h1 : b = a.toNat
  · by_cases h2 : k = j.toNat
    · rw [if_pos h1, if_pos h2, if_pos (by omega)]
    · rw [if_pos h1, if_neg h2, if_neg (by omega)]; rfl
  · rw [if_neg h1, if_neg (by omega)]; rfl
theorem mk_wL (s : zSt) (a j : Int) (v : Int64) (ha : 0 ≤ a) (hj : 0 ≤ j) : wL (mk s) a.toNat j.toNat v = mk (zwL s a j v) := by
  unfold wL mk
  refine Prod.ext rfl (Prod.ext rfl (Prod.ext rfl (Prod.ext ?_ rfl)))
  funext b k
  show up2 _ _ _ _ b k = zL (zwL s a j v) b k
  rw [zL_wL]
  unfold up2
  by_cases h1 : b = a.toNat
  · by_cases h2 : k = j.toNat
    · rw [if_pos h1, if_pos h2, if_pos (by omega)]
    · rw [if_pos h1, if_neg h2, if_neg (by omega)]; rfl
  · rw [if_neg h1, if_neg (by omega)]; rfl
theorem Wf_wI {s : zSt} {a j v : Int} (h : Wf s) (hv : rng v) : Wf (zwI s a j v) := by
  intro b k
  rw [zI_wI]
  split
  · exact hv
  · exact h b k
theorem Wf_wC {s : zSt} {a b n : Int} (h : Wf s) : Wf (zwC s a b n) := by
  intro c k
  rw [zI_wC]
  split
  · exact h _ _
  · exact h _ _
theorem xsl_mk (mi pc : Nat) (s : zSt) : xsl mi pc (mk s) = mk s := by
  unfold xsl
  split <;> rfl
section OPS
variable {S : Option (Nat × (Nat → Int32))} {mi pc pc' len : Nat} {l l' : List (Nat × Value)} {st st' : List Value} {s s' : zSt} {Q : Option Value ⊕ Nat → zSt → Prop} {ins : Instr}
theorem wp_mono {Q' : Option Value ⊕ Nat → zSt → Prop} (h : wp S mi pc l st s Q) (hq : ∀ o t, Q o t → Q' o t) : wp S mi pc l st s Q' := fun hW => by
  obtain ⟨n, o, t, h1, h2, h3⟩ := h hW
  exact ⟨n, o, t, h1, h2, hq _ _ h3⟩
theorem wp_step (hf : xfetch mi pc = some (ins, len)) (hp : xpr mi pc l = l) (ht : xthr ins mi pc = none) (he : xend ins len mi st = none) (hs : Wf s → xstep S ins len mi pc l st (mk s) = some (pc', l', st', mk s')) (hw : Wf s → Wf s') (h : wp S mi pc' l' st' s' Q) : wp S mi pc l st s Q := fun hW => by
  obtain ⟨n, o, t, h1, h2, h3⟩ := h (hw hW)
  refine ⟨n + 1, o, t, ?_, h2, h3⟩
  unfold xrun
  dsimp only
  rw [hp, xsl_mk, hf]
  dsimp only
  rw [ht]
  dsimp only
  rw [he]
  dsimp only
  rw [hs hW]
  exact h1
/-- pruning -/
theorem xpr_idem (mi pc : Nat) (l : List (Nat × Value)) : xpr mi pc (xpr mi pc l) = xpr mi pc l := by
  unfold xpr
  split
  · rfl
  · rw [List.filter_filter]
    congr 1
    funext q
    exact Bool.and_self _
theorem wp_pr (hp : xpr mi pc l = l') (h : wp S mi pc l' st s Q) : wp S mi pc l st s Q := fun hW => by
  obtain ⟨n, o, t, h1, h2, h3⟩ := h hW
  refine ⟨n, o, t, ?_, h2, h3⟩
  subst hp
  match n, h1 with
  | n + 1, h1 =>
    unfold xrun at h1 ⊢
    rw [xpr_idem] at h1
    exact h1
theorem xpr_no (hc : xfind (xcut mi) pc = none) (l : List (Nat × Value)) : xpr mi pc l = l := by
  unfold xpr
  rw [hc]
theorem st_A {F : xF3} (h : xstepA ins len mi pc l st = some F) : xstep S ins len mi pc l st (mk s) = some (F.1, F.2.1, F.2.2, mk s) := by
  unfold xstep; rw [h]; rfl
theorem st_B {F : xF3} (h0 : xstepA ins len mi pc l st = none) (h : xstepB ins len pc l st = some F) : xstep S ins len mi pc l st (mk s) = some (F.1, F.2.1, F.2.2, mk s) := by
  unfold xstep; rw [h0, h]; rfl
theorem st_C {M : xM} {F : xF} (h0 : xstepA ins len mi pc l st = none) (h1 : xstepB ins len pc l st = none) (h2 : xstepO ins len mi pc l st = none) (h : xstepC S ins len mi pc l st M = some F) : xstep S ins len mi pc l st M = some F := by
  unfold xstep; rw [h0, h1, h2, h]; rfl
end OPS
