/-! ===== the law: what stands between two calls ===== -/
def lwI (m : Nat) (s : zSt) : Prop := ∃ D H T, okS D H T ∧ cRel s D H T ∧ mRel s D H T ∧ zc s ≤ 274 + m ∧ zn s ≤ 60000 + 6 * m
noncomputable def wr (x : Int) : Int := (i32 x).toInt
theorem wr_rng (x : Int) : rng (wr x) := rng_to _
theorem wr_iv (x : Int) : rI (wr x) = rI x := congrArg (fun q : Int32 => (Sum.inl (some (Value.int q)) : Option Value ⊕ Nat)) (i32_of (i32 x))
theorem zkI_any {f : Int → Prop} {g : Nat → Prop} {x : Int} (h : f (wr x)) : zkI f g (rI x) := .inl ⟨wr x, wr_rng x, (wr_iv x).symm, h⟩
theorem cRel_bump {w : zSt} {D : Int → Int} {H : List (Int → Int)} {T : List Int} (h : cRel w D H T) : cRel (zbump w) D H T := h
theorem mRel_bump {w : zSt} {D : Int → Int} {H : List (Int → Int)} {T : List Int} (h : mRel w D H T) : mRel (zbump w) D H T := h
section LWM
variable {m : Nat} {s w u : zSt} {D D' : Int → Int} {H H' : List (Int → Int)} {T T' : List Int} {y : Int64}
theorem mRel_cls (h : mRel s D H T) (hw : frm clsC s w) : mRel w D H T := mRel_fr h hw fun a a0 a1 => by unfold clsC; omega
theorem lw_midT (h : mRel s D H T) (hw : frm clsC s w) : mRel (zbump w) D H T := mRel_bump (mRel_cls h hw)
theorem lw_mid (h : mRel s D H T) (hw : frm clsC s w) : mRel (zwL w 275 0 y) D H T := mRel_fr (mRel_cls h hw) (frm_L (P := fun a => a = 275) frm_refl rfl) fun a a0 a1 => by omega
theorem cRel_mod (hO : okS D H T) (h : cRel w D H T) (hu : frm modC w u) : cRel u D H T := cRel_fr h hO.1.1 (okHs_H hO.2.2.1) hu fun a ha => by unfold cK at ha; unfold modC; omega
/-- a refusal -/
theorem lw_ref (hO : okS D H T) (hw : frm clsC s w) (hc : cRel w D H T) (hu : frm modC (zbump w) u) (hm : mRel u D H T) (h1 : zc s ≤ 274 + m) (h2 : zn s ≤ 60000 + 6 * m) : lwI (m + 1) u := by
  refine ⟨D, H, T, hO, cRel_mod hO (cRel_bump hc) hu, hm, ?_, ?_⟩
  · have e1 : zc u = zc w + 1 := hu.2.1
    have e2 : zc w = zc s := hw.2.1
    omega
  · have e1 : zn u = zn w + 6 := hu.2.2
    have e2 : zn w = zn s := hw.2.2
    omega
/-- an answer -/
theorem lw_ans (hO : okS D' H' T') (hw : frm clsC s w) (hc : cRel w D' H' T') (hu : frm modC (zwL w 275 0 y) u) (hm : mRel u D' H' T') (h1 : zc s ≤ 274 + m) (h2 : zn s ≤ 60000 + 6 * m) : lwI (m + 1) u := by
  have hcl : cRel (zwL w 275 0 y) D' H' T' := cRel_fr hc hO.1.1 (okHs_H hO.2.2.1) (frm_L (P := fun a => a = 275) frm_refl rfl) fun a ha => by unfold cK at ha; omega
  refine ⟨D', H', T', hO, cRel_mod hO hcl hu, hm, ?_, ?_⟩
  · have e1 : zc u = zc w := hu.2.1
    have e2 : zc w = zc s := hw.2.1
    omega
  · have e1 : zn u = zn w := hu.2.2
    have e2 : zn w = zn s := hw.2.2
    omega
/-- an answer that is not stored -/
theorem lw_an0 (hO : okS D' H' T') (hw : frm clsC s w) (hc : cRel w D' H' T') (hu : frm modC w u) (hm : mRel u D' H' T') (h1 : zc s ≤ 274 + m) (h2 : zn s ≤ 60000 + 6 * m) : lwI (m + 1) u := by
  refine ⟨D', H', T', hO, cRel_mod hO hc hu, hm, ?_, ?_⟩
  · have e1 : zc u = zc w := hu.2.1
    have e2 : zc w = zc s := hw.2.1
    omega
  · have e1 : zn u = zn w := hu.2.2
    have e2 : zn w = zn s := hw.2.2
    omega
theorem lw_at (hu : frm modC (zwL w 275 0 y) u) : zL u 275 0 = y := by
  rw [fL hu (by unfold modC; omega), zL_eq]
variable {S : Option (Nat × (Nat → Int32))} {Q : Option Value ⊕ Nat → zSt → Prop} {P : Prop} {c x : Int} {v : Int64}
/-- class and reference refuse alike -/
theorem lw_fT (hne : c ≠ 0) (h3 : zI u 252 3 = c) (hk : P) : zkI (fun y15 => ((zI u 252 3) = c → (c ≠ 0 → P) ∧ (c = 0 → ((zcmp (zL u 275 0) (zi2l y15)) = 0 → P) ∧ ((zcmp (zL u 275 0) (zi2l y15)) ≠ 0 → Q (rI 0) u))) ∧ ((zI u 252 3) ≠ c → Q (rI 0) u)) (fun _ => False) (rI 0) :=
  zkI_I ⟨by omega, by omega⟩ ⟨fun _ => ⟨fun _ => hk, fun h => absurd h hne⟩, fun h => absurd h3 h⟩
theorem lw_fTL (hne : c ≠ 0) (h3 : zI u 252 3 = c) (hk : P) : zkL (fun y15 => ((zI u 252 3) = c → (c ≠ 0 → P) ∧ (c = 0 → ((zcmp (zL u 275 0) y15) = 0 → P) ∧ ((zcmp (zL u 275 0) y15) ≠ 0 → Q (rI 0) u))) ∧ ((zI u 252 3) ≠ c → Q (rI 0) u)) (fun _ => False) (rL 0) :=
  zkL_L ⟨fun _ => ⟨fun _ => hk, fun h => absurd h hne⟩, fun h => absurd h3 h⟩
/-- class and reference answer alike -/
theorem lw_fI (h3 : zI u 252 3 = 0) (hL : zL u 275 0 = zi2l (wr x)) (hk : P) : zkI (fun y15 => ((zI u 252 3) = 0 → ((0 : Int) ≠ 0 → P) ∧ ((0 : Int) = 0 → ((zcmp (zL u 275 0) (zi2l y15)) = 0 → P) ∧ ((zcmp (zL u 275 0) (zi2l y15)) ≠ 0 → Q (rI 0) u))) ∧ ((zI u 252 3) ≠ 0 → Q (rI 0) u)) (fun _ => False) (rI x) :=
  zkI_any ⟨fun _ => ⟨fun h => absurd rfl h, fun _ => ⟨fun _ => hk, fun h => absurd (zcmp_0.mpr hL) h⟩⟩, fun h => absurd h3 h⟩
theorem lw_fL (h3 : zI u 252 3 = 0) (hL : zL u 275 0 = v) (hk : P) : zkL (fun y15 => ((zI u 252 3) = 0 → ((0 : Int) ≠ 0 → P) ∧ ((0 : Int) = 0 → ((zcmp (zL u 275 0) y15) = 0 → P) ∧ ((zcmp (zL u 275 0) y15) ≠ 0 → Q (rI 0) u))) ∧ ((zI u 252 3) ≠ 0 → Q (rI 0) u)) (fun _ => False) (rL v) :=
  zkL_L ⟨fun _ => ⟨fun h => absurd rfl h, fun _ => ⟨fun _ => hk, fun h => absurd (zcmp_0.mpr hL) h⟩⟩, fun h => absurd h3 h⟩
/-- answers that are compared as they are -/
theorem lw_fE (hk : P) : zkI (fun y3 => (wr x = y3 → P) ∧ (wr x ≠ y3 → Q (rI 0) u)) (fun _ => False) (rI x) := zkI_any ⟨fun _ => hk, fun h => absurd rfl h⟩
theorem lw_fEL (hk : P) : zkL (fun y3 => (zcmp v y3 = 0 → P) ∧ (zcmp v y3 ≠ 0 → Q (rI 0) u)) (fun _ => False) (rL v) := zkL_L ⟨fun _ => hk, fun h => absurd (zcmp_0.mpr rfl) h⟩
end LWM
