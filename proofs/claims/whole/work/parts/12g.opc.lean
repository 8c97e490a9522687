/-! ===== ends, throws, calls, switches, the copy ===== -/
def zkI (f : Int → Prop) (g : Nat → Prop) (o : Option Value ⊕ Nat) : Prop := (∃ x, rng x ∧ o = rI x ∧ f x) ∨ (∃ e, o = rT e ∧ g e)
def zkL (f : Int64 → Prop) (g : Nat → Prop) (o : Option Value ⊕ Nat) : Prop := (∃ x, o = rL x ∧ f x) ∨ (∃ e, o = rT e ∧ g e)
def zkU (f : Prop) (g : Nat → Prop) (o : Option Value ⊕ Nat) : Prop := (o = rU ∧ f) ∨ (∃ e, o = rT e ∧ g e)
/-- a nullable reference: below 0 it is null -/
def zkN (f : Int → Prop) (o : Option Value ⊕ Nat) : Prop := ∃ a, o = .inl (some (orf a)) ∧ f a
theorem zkI_I {f : Int → Prop} {g : Nat → Prop} {x : Int} (hx : rng x) (h : f x) : zkI f g (rI x) := .inl ⟨x, hx, rfl, h⟩
theorem zkI_T {f : Int → Prop} {g : Nat → Prop} {e : Nat} (h : g e) : zkI f g (rT e) := .inr ⟨e, rfl, h⟩
theorem zkL_L {f : Int64 → Prop} {g : Nat → Prop} {x : Int64} (h : f x) : zkL f g (rL x) := .inl ⟨x, rfl, h⟩
theorem zkL_T {f : Int64 → Prop} {g : Nat → Prop} {e : Nat} (h : g e) : zkL f g (rT e) := .inr ⟨e, rfl, h⟩
theorem zkU_U {f : Prop} {g : Nat → Prop} (h : f) : zkU f g rU := .inl ⟨rfl, h⟩
theorem zkU_T {f : Prop} {g : Nat → Prop} {e : Nat} (h : g e) : zkU f g (rT e) := .inr ⟨e, rfl, h⟩
theorem zkN_A {f : Int → Prop} {a : Int} (h0 : 0 ≤ a) (h : f a) : zkN f (rA a) := ⟨a, by rw [orf_pos h0], h⟩
theorem zkN_0 {f : Int → Prop} (h : f (-1)) : zkN f rN := ⟨-1, rfl, h⟩
/-- an exception that comes out of a call -/
def zex (S : Option (Nat × (Nat → Int32))) (mi pc : Nat) (l : List (Nat × Value)) (Q : Option Value ⊕ Nat → zSt → Prop) (e : Nat) (t : zSt) : Prop :=
  (xhh mi = [] ∧ Q (rT e) t) ∨ ∃ h hs hp c, xhh mi = h :: hs ∧ xhnd (h :: hs) pc e = some hp ∧ xcatch mi hp l = some c ∧ wp S mi c.1 c.2 [] t Q
section OPC
variable {S : Option (Nat × (Nat → Int32))} {mi pc pc' : Nat} {l l' : List (Nat × Value)} {st st' : List Value} {s s' : zSt} {Q R : Option Value ⊕ Nat → zSt → Prop} {ins : Instr} {x y z a b j : Int} {u v : Int64} {c k n w i mj len : Nat}
theorem wp_end {o : Option Value} (hf : xfetch mi pc = some (ins, len)) (hp : xpr mi pc l = l) (ht : xthr ins mi pc = none) (he : xend ins len mi st = some o) (h : Q (.inl o) s) : wp S mi pc l st s Q := fun hW => by
  refine ⟨1, .inl o, s, ?_, hW, h⟩
  unfold xrun
  dsimp only
  rw [hp, xsl_mk, hf]
  dsimp only
  rw [ht]
  dsimp only
  rw [he]
theorem i_ireturn (hf : xfetch mi pc = some (.ireturn, 1)) (hp : xpr mi pc l = l) (hr : xret mi = some .int) (h : Q (rI x) s) : wp S mi pc l [iv x] s Q :=
  wp_end hf hp rfl (by
    show (if 1 = 1 then (match xret mi with | some .int => some (some (iv x)) | some .boolean => if i32 x = 0 ∨ i32 x = 1 then some (some (iv x)) else none | _ => none) else none) = some (some (iv x))
    rw [if_pos rfl, hr]) h
theorem i_zreturn (hf : xfetch mi pc = some (.ireturn, 1)) (hp : xpr mi pc l = l) (hr : xret mi = some .boolean) (hx : x = 0 ∨ x = 1) (h : Q (rI x) s) : wp S mi pc l [iv x] s Q :=
  wp_end hf hp rfl (by
    show (if 1 = 1 then (match xret mi with | some .int => some (some (iv x)) | some .boolean => if i32 x = 0 ∨ i32 x = 1 then some (some (iv x)) else none | _ => none) else none) = some (some (iv x))
    rw [if_pos rfl, hr]
    show (if i32 x = 0 ∨ i32 x = 1 then some (some (iv x)) else none) = _
    rw [if_pos (by rcases hx with rfl | rfl; exact .inl rfl; exact .inr rfl)]) h
theorem i_lreturn (hf : xfetch mi pc = some (.lreturn, 1)) (hp : xpr mi pc l = l) (hr : xret mi = some .long) (h : Q (rL u) s) : wp S mi pc l [.long u] s Q :=
  wp_end hf hp rfl (by
    show (if 1 = 1 ∧ xret mi = some .long then some (some (Value.long u)) else none) = some (some (.long u))
    rw [if_pos ⟨rfl, hr⟩]) h
theorem i_areturn {C : String} (hf : xfetch mi pc = some (.areturn, 1)) (hp : xpr mi pc l = l) (hr : xret mi = some (.object C)) (h : Q (rA a) s) : wp S mi pc l [rf a] s Q :=
  wp_end hf hp rfl (by
    show (if 1 = 1 then (match xret mi with | some (.object _) => some (some (rf a)) | _ => none) else none) = some (some (rf a))
    rw [if_pos rfl, hr]) h
theorem i_nreturn {C : String} (hf : xfetch mi pc = some (.areturn, 1)) (hp : xpr mi pc l = l) (hr : xret mi = some (.object C)) (h : Q rN s) : wp S mi pc l [.null] s Q :=
  wp_end hf hp rfl (by
    show (if 1 = 1 then (match xret mi with | some (.object _) => some (some Value.null) | _ => none) else none) = some (some .null)
    rw [if_pos rfl, hr]) h
theorem i_Nreturn {C : String} (hf : xfetch mi pc = some (.areturn, 1)) (hp : xpr mi pc l = l) (hr : xret mi = some (.object C)) (h : Q (.inl (some (orf a))) s) : wp S mi pc l [orf a] s Q := by
  by_cases h0 : a < 0
  · rw [orf_neg h0] at h ⊢; exact i_nreturn hf hp hr h
  · rw [orf_pos (by omega)] at h ⊢; exact i_areturn hf hp hr h
theorem i_return (hf : xfetch mi pc = some (.return_, 1)) (hp : xpr mi pc l = l) (hr : xret mi = none) (h : Q rU s) : wp S mi pc l [] s Q :=
  wp_end hf hp rfl (by
    show (if 1 = 1 ∧ xret mi = none then some (none : Option Value) else none) = some none
    rw [if_pos ⟨rfl, hr⟩]) h
theorem i_throw (hf : xfetch mi pc = some (.new i, len)) (hp : xpr mi pc l = l) (ht : xthr (.new i) mi pc = some k) (hr : 5 ≤ xrk mi) (h : Q (rT k) (zbump s)) : wp S mi pc l [] s Q := fun hW => by
  refine ⟨1, .inr k, zbump s, ?_, hW, h⟩
  unfold xrun
  dsimp only
  rw [hp, xsl_mk, hf]
  dsimp only
  rw [ht]
  dsimp only
  rw [if_pos ⟨hr, rfl⟩]
  rfl
theorem wp_call {args rest : List Value} {flag : Bool} (hf : xfetch mi pc = some (ins, len)) (hp : xpr mi pc l = l) (ht : xthr ins mi pc = none) (he : xend ins len mi st = none) (hs : xstep S ins len mi pc l st (mk s) = none) (hc : xcall ins len mi st (mk s) = some (mj, args, rest, flag)) (hl : (lg_sl args).length ≤ xnL mj) (hk : xrk mj + 1 ≤ xrk mi)
    (h : wp S mj 0 (lv_args 0 args) [] s R) (g : ∀ o t, R o t → (∃ v, o = .inl v ∧ wp S mi (pc + 3) l (v.toList ++ rest) t Q) ∨ (∃ e, o = rT e ∧ flag = true ∧ zex S mi pc l Q e t)) : wp S mi pc l st s Q := fun hW => by
  obtain ⟨n1, o1, t, h1, h2, h3⟩ := h hW
  rcases g _ _ h3 with ⟨v, rfl, h4⟩ | ⟨e, rfl, hfl, h4⟩
  · obtain ⟨n2, o2, t2, h5, h6, h7⟩ := h4 h2
    refine ⟨max n1 n2 + 1, o2, t2, ?_, h6, h7⟩
    unfold xrun
    dsimp only
    rw [hp, xsl_mk, hf]
    dsimp only
    rw [ht]
    dsimp only
    rw [he]
    dsimp only
    rw [hs]
    dsimp only
    rw [hc]
    dsimp only
    rw [if_pos ⟨hl, hk⟩, xrun_fuel _ _ _ _ _ _ _ _ h1 _ (Nat.le_max_left ..)]
    exact xrun_fuel _ _ _ _ _ _ _ _ h5 _ (Nat.le_max_right ..)
  · rcases h4 with ⟨h4, h5⟩ | ⟨hd, tl, hpc, c, q1, q2, q3, h4⟩
    · refine ⟨n1 + 1, rT e, t, ?_, h2, h5⟩
      unfold xrun
      dsimp only
      rw [hp, xsl_mk, hf]
      dsimp only
      rw [ht]
      dsimp only
      rw [he]
      dsimp only
      rw [hs]
      dsimp only
      rw [hc]
      dsimp only
      rw [if_pos ⟨hl, hk⟩, h1]
      dsimp only
      rw [if_pos hfl, h4]
    · obtain ⟨n2, o2, t2, h5, h6, h7⟩ := h4 h2
      refine ⟨max n1 n2 + 1, o2, t2, ?_, h6, h7⟩
      unfold xrun
      dsimp only
      rw [hp, xsl_mk, hf]
      dsimp only
      rw [ht]
      dsimp only
      rw [he]
      dsimp only
      rw [hs]
      dsimp only
      rw [hc]
      dsimp only
      rw [if_pos ⟨hl, hk⟩, xrun_fuel _ _ _ _ _ _ _ _ h1 _ (Nat.le_max_left ..)]
      dsimp only
      rw [if_pos hfl, q1]
      dsimp only
      rw [q2]
      dsimp only
      rw [q3]
      exact xrun_fuel _ _ _ _ _ _ _ _ h5 _ (Nat.le_max_right ..)
theorem wp_virt {rest L : List Value} {Ls : List (Nat × Value)} (hf : xfetch mi pc = some (.invokevirtual i, 3)) (hp : xpr mi pc l = l) (hq : xfind (xct (xown mi)) i = some (0, mj, w)) (hm : xnp mj = n ∧ xown mj = c ∧ c < 11 ∧ xrk mj + 1 ≤ xrk mi) (hd : st.drop n = rf b :: rest) (ha : rf b :: (st.take n).reverse = L) (ho : isO b c) (hn : (st.take n).length = n ∧ (rest.map fun v => v.category).sum ≤ 8 ∧ (lg_sl L).length ≤ xnL mj) (hL : lv_args 0 L = Ls)
    (h : wp S mj 0 Ls [] s R) (g : ∀ o t, R o t → (∃ v, o = .inl v ∧ wp S mi (pc + 3) l (v.toList ++ rest) t Q) ∨ (∃ e, o = rT e ∧ zex S mi pc l Q e t)) : wp S mi pc l st s Q := by
  obtain ⟨m1, m2, m3, m4⟩ := hm
  subst hL ha
  refine wp_call hf hp rfl rfl ?_ (rest := rest) (flag := true) ?_ hn.2.2 m4 h fun o t r => ?_
  · unfold xstep
    rfl
  · show (if 3 = 3 then (xfind (xct (xown mi)) i).bind _ else none) = _
    rw [if_pos rfl, hq]
    show (if 0 = 0 then (match st.drop (xnp mj) with
      | .ref b :: r => if 2 ≤ b ∧ b < mNx (mk s) ∧ (mSh (mk s) b).1 = 4 + xown mj ∧ xown mj < 11 ∧ (st.take (xnp mj)).length = xnp mj ∧ (r.map fun v => v.category).sum ≤ 8 then some (mj, .ref b :: (st.take (xnp mj)).reverse, r, true) else none
      | _ => none) else none) = _
    rw [if_pos rfl, m1, m2, hd]
    show (if 2 ≤ b.toNat ∧ _ then _ else _) = _
    rw [if_pos ⟨(isO_nx (s := s) ho).1, (isO_nx (s := s) ho).2.1, (isO_nx (s := s) ho).2.2, m3, hn.1, hn.2.1⟩]
  · rcases g o t r with g | ⟨e, g1, g2⟩
    · exact .inl g
    · exact .inr ⟨e, g1, rfl, g2⟩
theorem wp_stat {rest L : List Value} {Ls : List (Nat × Value)} {kd : Nat} (hf : xfetch mi pc = some (.invokestatic i, 3)) (hp : xpr mi pc l = l) (hq : xfind (xct (xown mi)) i = some (kd, mj, w)) (hm : xnp mj = n ∧ xrk mj + 1 ≤ xrk mi ∧ (kd = 1 ∨ kd = 4) ∧ ¬ (xown mi = 5 ∧ i = 40)) (hd : st.drop n = rest) (ha : (st.take n).reverse = L) (hn : (st.take n).length = n ∧ (rest.map fun v => v.category).sum ≤ 8 ∧ (lg_sl L).length ≤ xnL mj) (hL : lv_args 0 L = Ls)
    (h : wp S mj 0 Ls [] s R) (g : ∀ o t, R o t → (∃ v, o = .inl v ∧ wp S mi (pc + 3) l (v.toList ++ rest) t Q) ∨ (∃ e, o = rT e ∧ kd = 1 ∧ zex S mi pc l Q e t)) : wp S mi pc l st s Q := by
  obtain ⟨m1, m4, m2, m3⟩ := hm
  subst hL ha hd
  refine wp_call hf hp rfl rfl ?_ (rest := st.drop n) (flag := kd == 1) ?_ hn.2.2 m4 h fun o t r => ?_
  · unfold xstep
    show (if 3 = 3 ∧ xown mi = 5 ∧ i = 40 then _ else none) = none
    rw [if_neg (fun z => m3 z.2)]
  · show (if 3 = 3 then (xfind (xct (xown mi)) i).bind _ else none) = _
    rw [if_pos rfl, hq]
    show (if (kd = 1 ∨ kd = 4) ∧ (st.take (xnp mj)).length = xnp mj ∧ ((st.drop (xnp mj)).map fun v => v.category).sum ≤ 8 then some (mj, (st.take (xnp mj)).reverse, st.drop (xnp mj), kd == 1) else none) = _
    rw [m1, if_pos ⟨m2, hn.1, hn.2.1⟩]
  · rcases g o t r with g | ⟨e, g1, g2, g3⟩
    · exact .inl g
    · exact .inr ⟨e, g1, by rw [g2]; rfl, g3⟩
theorem i_sw_hit {d lo hi o : Int} {offs : Array Int} {kk t : Nat} (hf : xfetch mi pc = some (.tableswitch d lo hi offs, len)) (hp : xpr mi pc l = l) (hx : x = lo + kk) (hr : rng x) (hi1 : lo + kk ≤ hi) (ho : offs[kk]? = some o) (ht : (pc : Int) + o = (t : Int)) (g : wp S mi t l st s Q) : wp S mi pc l (iv x :: st) s Q := by
  have ex := i32_to x hr
  refine wp_step hf hp rfl rfl (fun _ => st_B (F := (t, l, st)) rfl ?_) id g
  show (if (i32 x).toInt < lo ∨ hi < (i32 x).toInt then _ else (offs[((i32 x).toInt - lo).toNat]?).bind fun o => if 0 ≤ (pc : Int) + o then some (((pc : Int) + o).toNat, l, st) else none) = _
  rw [ex, if_neg (by omega), show (x - lo).toNat = kk by omega, ho]
  show (if 0 ≤ (pc : Int) + o then some (((pc : Int) + o).toNat, l, st) else none) = _
  rw [ht, if_pos (Int.natCast_nonneg t), Int.toNat_natCast]
theorem i_sw_out {d lo hi : Int} {offs : Array Int} {t : Nat} (hf : xfetch mi pc = some (.tableswitch d lo hi offs, len)) (hp : xpr mi pc l = l) (hx : x < lo ∨ hi < x) (hr : rng x) (ht : (pc : Int) + d = (t : Int)) (g : wp S mi t l st s Q) : wp S mi pc l (iv x :: st) s Q := by
  have ex := i32_to x hr
  refine wp_step hf hp rfl rfl (fun _ => st_B (F := (t, l, st)) rfl ?_) id g
  show (if (i32 x).toInt < lo ∨ hi < (i32 x).toInt then (if 0 ≤ (pc : Int) + d then some ((((pc : Int) + d).toNat, l, st) : xF3) else none) else _) = _
  rw [ex, if_pos hx, ht, if_pos (Int.natCast_nonneg t), Int.toNat_natCast]
theorem i_copy (hf : xfetch mi pc = some (.invokestatic 40, 3)) (hp : xpr mi pc l = l) (hown : xown mi = 5) (ha : isA a 3 1024) (hb : isA b 3 1024) (hne : a ≠ b) (hby : ∀ j, 0 ≤ j → j < 1024 → -128 ≤ zI s b j ∧ zI s b j ≤ 127) (g : wp S mi (pc + 3) l [] (zwC s a b 1024) Q) : wp S mi pc l [iv 1024, iv 0, rf a, iv 0, rf b] s Q := fun hW => by
  obtain ⟨q1, q2, q3⟩ := isA_sh ha
  obtain ⟨p1, p2, p3⟩ := isA_sh hb
  have e1 : (i32 1024).toNatClampNeg = 1024 := by decide
  have e0 : (i32 0).toNatClampNeg = 0 := by decide
  have hall : (List.range 1024).all (fun i => fits .byte (.int (mI (mk s) b.toNat (0 + i)))) = true := by
    rw [List.all_eq_true]
    intro r hr
    rw [List.mem_range] at hr
    have h := hby r (by omega) (by omega)
    have hb0 : ((b.toNat : Nat) : Int) = b := Int.toNat_of_nonneg (by omega)
    rw [mk_I, hb0]
    show (decide (-128 ≤ i32 _) && decide (i32 _ ≤ 127)) = true
    simp only [Bool.and_eq_true, decide_eq_true_iff]
    rw [show ((0 + r : Nat) : Int) = (r : Int) by omega]
    have e : rng (zI s b r) := hW b r
    constructor
    · exact (i32_le (x := -128) (by omega) e).mpr h.1
    · exact (i32_le (y := 127) e (by omega)).mpr h.2
  refine wp_step hf hp rfl rfl (fun _ => st_C rfl rfl rfl (F := (pc + 3, l, [], mk (zwC s a b 1024))) ?_) (fun h => Wf_wC h) g hW
  show (if 3 = 3 ∧ xown mi = 5 ∧ 40 = 40 then (if 2 ≤ a.toNat ∧ a.toNat < mNx (mk s) ∧ 2 ≤ b.toNat ∧ b.toNat < mNx (mk s) ∧ a.toNat ≠ b.toNat ∧ (mSh (mk s) a.toNat).1 = 3 ∧ (mSh (mk s) b.toNat).1 = 3 ∧ 0 ≤ (i32 1024).toInt ∧ 0 ≤ (i32 0).toInt ∧ 0 ≤ (i32 0).toInt ∧ (i32 0).toNatClampNeg + (i32 1024).toNatClampNeg ≤ (mSh (mk s) b.toNat).2 ∧ (i32 0).toNatClampNeg + (i32 1024).toNatClampNeg ≤ (mSh (mk s) a.toNat).2 ∧ (([] : List Value).map fun v => v.category).sum ≤ 8 ∧ (List.range (i32 1024).toNatClampNeg).all (fun i => fits .byte (.int (mI (mk s) b.toNat ((i32 0).toNatClampNeg + i)))) = true then
          some (pc + 3, l, [], wC (mk s) a.toNat (va_cpy (mI (mk s) b.toNat) (mI (mk s) a.toNat) (i32 0).toNatClampNeg (i32 0).toNatClampNeg (i32 1024).toNatClampNeg)) else none) else none) = _
  rw [if_pos ⟨rfl, hown, rfl⟩, e1, e0, mk_nx, mk_sh, mk_sh, q3, p3, if_pos ⟨q1, q2, p1, p2, by omega, rfl, rfl, by decide, by decide, by decide, Nat.le_refl _, Nat.le_refl _, by decide, hall⟩]
  have e : wC (mk s) a.toNat (va_cpy (mI (mk s) b.toNat) (mI (mk s) a.toNat) 0 0 1024) = mk (zwC s a b 1024) := by
   unfold wC mk
   refine Prod.ext rfl (Prod.ext rfl (Prod.ext ?_ rfl))
   funext d k
   show (up1 _ _ _ d : Nat → Int32) k = i32 (zI (zwC s a b 1024) d k)
   rw [zI_wC]
   unfold up1 va_cpy
   by_cases h1 : d = a.toNat
   · rw [if_pos h1]
     by_cases h2 : k < 1024
     · rw [if_pos (by omega), if_pos (by omega)]
       show i32 (zI s (b.toNat : Int) _) = _
       rw [Int.toNat_of_nonneg (by omega : 0 ≤ b), show ((0 + (k - 0) : Nat) : Int) = (k : Int) by omega]
     · rw [if_neg (by omega), if_neg (by omega), h1]; rfl
   · rw [if_neg h1, if_neg (by omega)]; rfl
  rw [e]
theorem i_ifnonnullA {off : Int} {t : Nat} (hf : xfetch mi pc = some (.ifnonnull off, 3)) (hp : xpr mi pc l = l) (hj : (pc : Int) + off = (t : Int)) (h0 : 2 ≤ a) (k1 : wp S mi t l st s Q) : wp S mi pc l (rf a :: st) s Q := by
  rw [← orf_pos (a := a) (by omega)]
  exact i_ifnonnull hf hp hj (fun _ => k1) (fun h => by omega)
theorem i_ifnullA {off : Int} {t : Nat} (hf : xfetch mi pc = some (.ifnull off, 3)) (hp : xpr mi pc l = l) (hj : (pc : Int) + off = (t : Int)) (h0 : 2 ≤ a) (k1 : wp S mi (pc + 3) l st s Q) : wp S mi pc l (rf a :: st) s Q := by
  rw [← orf_pos (a := a) (by omega)]
  exact i_ifnull hf hp hj (fun h => by omega) (fun _ => k1)
end OPC
