/-! ===== memory, ends, throws and calls ===== -/
theorem isO_nx {a : Int} {c : Nat} {s : zSt} (h : isO a c) : 2 ≤ a.toNat ∧ a.toNat < mNx (mk s) ∧ (mSh (mk s) a.toNat).1 = 4 + c := by
  rw [mk_nx, mk_sh]; exact isO_sh h
theorem xin_to {j : Int} {n : Nat} (hj : rng j) (h0 : 0 ≤ j) (h1 : j < n) : xin (i32 j) n = true := by
  unfold xin
  rw [i32_to j hj]
  simp only [Bool.and_eq_true, decide_eq_true_iff]
  exact ⟨h0, h1⟩
theorem i32_nat {j : Int} (hj : rng j) : (i32 j).toNatClampNeg = j.toNat := by
  show (i32 j).toInt.toNat = _
  rw [i32_to j hj]
theorem i32_cast (j : Int) (h : 0 ≤ j) : ((j.toNat : Nat) : Int) = j := Int.toNat_of_nonneg h
section OPM
variable {S : Option (Nat × (Nat → Int32))} {mi pc pc' : Nat} {l l' : List (Nat × Value)} {st st' : List Value} {s s' : zSt} {Q : Option Value ⊕ Nat → zSt → Prop} {ins : Instr} {x y z a b j : Int} {u v : Int64} {c k n w i : Nat}
theorem i_getI (hf : xfetch mi pc = some (.getfield i, 3)) (hp : xpr mi pc l = l) (hq : xfind (xft (xown mi)) i = some (c, k, w)) (hk : (xfk c)[k]? = some 0 ∨ (xfk c)[k]? = some 1) (ho : isO a c) (g : rng (zI s a k) → wp S mi (pc + 3) l (iv (zI s a k) :: st) s Q) : wp S mi pc l (rf a :: st) s Q := fun hW =>
  wp_step hf hp rfl rfl (fun _ => st_C rfl rfl rfl (F := (pc + 3, l, iv (zI s a k) :: st, mk s)) (by
    show (if 3 = 3 then (xfind (xft (xown mi)) i).bind _ else none) = _
    rw [if_pos rfl, hq]
    show (if 2 ≤ a.toNat ∧ a.toNat < mNx (mk s) ∧ (mSh (mk s) a.toNat).1 = 4 + c then (xfld (mk s) c a.toNat k).bind _ else none) = _
    rw [if_pos (isO_nx ho)]
    have e : xfld (mk s) c a.toNat k = some (iv (zI s a k)) := by
      unfold xfld
      have ea := i32_cast a (by have := ho.1; omega)
      rcases hk with hk | hk <;> rw [hk] <;> show some (Value.int (i32 (zI s (a.toNat : Int) k))) = _ <;> rw [ea]
    rw [e]; rfl)) id (g (hW a k)) hW
theorem i_getL (hf : xfetch mi pc = some (.getfield i, 3)) (hp : xpr mi pc l = l) (hq : xfind (xft (xown mi)) i = some (c, k, w)) (hk : (xfk c)[k]? = some 2) (ho : isO a c) (g : wp S mi (pc + 3) l (.long (zL s a k) :: st) s Q) : wp S mi pc l (rf a :: st) s Q :=
  wp_step hf hp rfl rfl (fun _ => st_C rfl rfl rfl (F := (pc + 3, l, .long (zL s a k) :: st, mk s)) (by
    show (if 3 = 3 then (xfind (xft (xown mi)) i).bind _ else none) = _
    rw [if_pos rfl, hq]
    show (if 2 ≤ a.toNat ∧ a.toNat < mNx (mk s) ∧ (mSh (mk s) a.toNat).1 = 4 + c then (xfld (mk s) c a.toNat k).bind _ else none) = _
    rw [if_pos (isO_nx ho)]
    have e : xfld (mk s) c a.toNat k = some (.long (zL s a k)) := by
      unfold xfld
      have ea := i32_cast a (by have := ho.1; omega)
      rw [hk]; show some (Value.long (zL s (a.toNat : Int) k)) = _; rw [ea]
    rw [e]; rfl)) id g
/-- the cell that a field holds -/
theorem zrv_f {d : Nat} (hd : xfind (zxd.getD c []) k = some d) (hc : c < 11) (ho : isO a c) : zRV a.toNat k = some (a + d).toNat := by
  obtain ⟨h1, h2, h3⟩ := ho
  have e : a.toNat < 276 := by omega
  have hm : k ∈ zks a.toNat := by
    unfold zks
    simp only []
    rw [h3, if_neg (by omega), if_pos (by omega), show 4 + c - 4 = c by omega]
    exact List.mem_map.mpr ⟨_, xfind_mem hd, rfl⟩
  rw [zt_all.2 _ e _ hm]
  unfold zrv
  simp only []
  rw [h3, if_neg (by omega), if_pos (by omega), show 4 + c - 4 = c by omega, hd]
  show some (a.toNat + d) = _
  congr 1
  omega
theorem zrv_a {m : Nat} (ha : isA a (15 + c) n) (h0 : 0 ≤ j) (h1 : j < n) : zRV a.toNat j.toNat = some (a + (zxe c).1 + (zxe c).2 * j).toNat := by
  obtain ⟨g1, g2, g3⟩ := ha
  have e : a.toNat < 276 := by omega
  have hm : j.toNat ∈ zks a.toNat := by
    unfold zks
    simp only []
    rw [g3, if_pos (by show 15 ≤ 15 + c; omega)]
    exact List.mem_range.mpr (by show j.toNat < n; omega)
  rw [zt_all.2 _ e _ hm]
  unfold zrv
  simp only []
  rw [g3, if_pos (by show 15 ≤ 15 + c; omega), show 15 + c - 15 = c by omega, if_pos (by show j.toNat < n; omega)]
  congr 1
  generalize (zxe c).1 = p
  generalize (zxe c).2 = q
  have e1 : ((j.toNat : Nat) : Int) = j := Int.toNat_of_nonneg h0
  have e2 : ((a.toNat : Nat) : Int) = a := Int.toNat_of_nonneg (by omega)
  have : ((a.toNat + p + q * j.toNat : Nat) : Int) = a + p + q * j := by
    rw [Int.natCast_add, Int.natCast_add, Int.natCast_mul, e1, e2]
  rw [← this, Int.toNat_natCast]
theorem i_getR {d : Nat} (hf : xfetch mi pc = some (.getfield i, 3)) (hp : xpr mi pc l = l) (hq : xfind (xft (xown mi)) i = some (c, k, w)) (hk : (xfk c)[k]? = some 3) (hd : xfind (zxd.getD c []) k = some d) (hc : c < 11) (ho : isO a c) (hb : a + d = b) (g : wp S mi (pc + 3) l (rf b :: st) s Q) : wp S mi pc l (rf a :: st) s Q := by
  subst hb
  exact
  wp_step hf hp rfl rfl (fun _ => st_C rfl rfl rfl (F := (pc + 3, l, rf (a + d) :: st, mk s)) (by
    show (if 3 = 3 then (xfind (xft (xown mi)) i).bind _ else none) = _
    rw [if_pos rfl, hq]
    show (if 2 ≤ a.toNat ∧ a.toNat < mNx (mk s) ∧ (mSh (mk s) a.toNat).1 = 4 + c then (xfld (mk s) c a.toNat k).bind _ else none) = _
    rw [if_pos (isO_nx ho)]
    have e : xfld (mk s) c a.toNat k = some (rf (a + d)) := by
      unfold xfld
      rw [hk]; show some (xrv (mR (mk s) a.toNat k)) = _; rw [mk_R, zrv_f hd hc ho]; rfl
    rw [e]; rfl)) id g
theorem i_putI (hf : xfetch mi pc = some (.putfield i, 3)) (hp : xpr mi pc l = l) (hq : xfind (xft (xown mi)) i = some (c, k, w)) (hk : (xfk c)[k]? = some 0 ∨ ((xfk c)[k]? = some 1 ∧ (x = 0 ∨ x = 1))) (hfin : xfinal c k = false) (ho : isO a c) (hx : rng x) (g : wp S mi (pc + 3) l st (zwI s a k x) Q) : wp S mi pc l (iv x :: rf a :: st) s Q :=
  wp_step hf hp rfl rfl (fun _ => st_C rfl rfl rfl (F := (pc + 3, l, st, mk (zwI s a k x))) (by
    show (if 3 = 3 then (xfind (xft (xown mi)) i).bind _ else none) = _
    rw [if_pos rfl, hq]
    show (if 2 ≤ a.toNat ∧ a.toNat < mNx (mk s) ∧ (mSh (mk s) a.toNat).1 = 4 + c ∧ (xfinal c k = true → _) then (xputf (mk s) c a.toNat k (.int (i32 x))).bind _ else none) = _
    rw [if_pos ⟨(isO_nx (s := s) ho).1, (isO_nx (s := s) ho).2.1, (isO_nx (s := s) ho).2.2, fun h => by rw [hfin] at h; cases h⟩]
    have e : xputf (mk s) c a.toNat k (.int (i32 x)) = some (mk (zwI s a k x)) := by
      have e2 := mk_wI s a k x (by have := ho.1; omega) (by omega)
      rw [Int.toNat_natCast] at e2
      unfold xputf
      rcases hk with hk | ⟨hk, hx⟩
      · rw [hk]; show some (wI (mk s) a.toNat k (i32 x)) = _; rw [e2]
      · rw [hk]; show (if i32 x = 0 ∨ i32 x = 1 then some (wI (mk s) a.toNat k (i32 x)) else none) = _
        rw [if_pos (by rcases hx with rfl | rfl; exact .inl rfl; exact .inr rfl), e2]
    rw [e]; rfl)) (fun hW => Wf_wI hW hx) g
theorem i_putL (hf : xfetch mi pc = some (.putfield i, 3)) (hp : xpr mi pc l = l) (hq : xfind (xft (xown mi)) i = some (c, k, w)) (hk : (xfk c)[k]? = some 2) (hfin : xfinal c k = false) (ho : isO a c) (g : wp S mi (pc + 3) l st (zwL s a k u) Q) : wp S mi pc l (.long u :: rf a :: st) s Q :=
  wp_step hf hp rfl rfl (fun _ => st_C rfl rfl rfl (F := (pc + 3, l, st, mk (zwL s a k u))) (by
    show (if 3 = 3 then (xfind (xft (xown mi)) i).bind _ else none) = _
    rw [if_pos rfl, hq]
    show (if 2 ≤ a.toNat ∧ a.toNat < mNx (mk s) ∧ (mSh (mk s) a.toNat).1 = 4 + c ∧ (xfinal c k = true → _) then (xputf (mk s) c a.toNat k (.long u)).bind _ else none) = _
    rw [if_pos ⟨(isO_nx (s := s) ho).1, (isO_nx (s := s) ho).2.1, (isO_nx (s := s) ho).2.2, fun h => by rw [hfin] at h; cases h⟩]
    have e : xputf (mk s) c a.toNat k (.long u) = some (mk (zwL s a k u)) := by
      have e2 := mk_wL s a k u (by have := ho.1; omega) (by omega)
      rw [Int.toNat_natCast] at e2
      unfold xputf
      rw [hk]; show some (wL (mk s) a.toNat k u) = _; rw [e2]
    rw [e]; rfl)) (fun hW => hW) g
theorem i_iaload (hf : xfetch mi pc = some (.iaload, 1)) (hp : xpr mi pc l = l) (ha : isA a 1 n) (hj : rng j) (h0 : 0 ≤ j) (h1 : j < n) (g : rng (zI s a j) → wp S mi (pc + 1) l (iv (zI s a j) :: st) s Q) : wp S mi pc l (iv j :: rf a :: st) s Q := fun hW => by
  obtain ⟨q1, q2, q3⟩ := isA_sh ha
  refine wp_step hf hp rfl rfl (fun _ => st_C rfl rfl rfl (F := (pc + 1, l, iv (zI s a j) :: st, mk s)) ?_) id (g (hW a j)) hW
  show (if 1 = 1 then (if a.toNat = 0 then _ else if a.toNat = 1 then _ else if a.toNat < mNx (mk s) ∧ (mSh (mk s) a.toNat).1 = 1 ∧ xin (i32 j) (mSh (mk s) a.toNat).2 = true then some (pc + 1, l, .int (mI (mk s) a.toNat (i32 j).toNatClampNeg) :: st, mk s) else none) else none) = _
  rw [if_pos rfl, if_neg (by omega), if_neg (by omega), mk_nx, mk_sh, q3, if_pos ⟨q2, rfl, xin_to hj h0 h1⟩, i32_nat hj, mk_I, i32_cast j h0, i32_cast a (by omega)]
theorem i_table (hf : xfetch mi pc = some (.iaload, 1)) (hp : xpr mi pc l = l) (hj : rng j) (h0 : 0 ≤ j) (h1 : j < 8) (g : rng (ztab j) → wp S mi (pc + 1) l (iv (ztab j) :: st) s Q) : wp S mi pc l (iv j :: rf 1 :: st) s Q := by
  refine wp_step hf hp rfl rfl (fun _ => st_C rfl rfl rfl (F := (pc + 1, l, iv (ztab j) :: st, mk s)) ?_) id (g (rng_to _))
  show (if 1 = 1 then (if xin (i32 j) 8 = true then some (pc + 1, l, .int (xtab (i32 j).toNatClampNeg) :: st, mk s) else none) else none) = _
  rw [if_pos rfl, if_pos (xin_to hj h0 h1), i32_nat hj]
  unfold ztab
  rw [show iv _ = Value.int _ from congrArg Value.int (i32_of _)]
theorem i_script {L : Nat} {xs : Nat → Int32} (hS : S = some (L, xs)) (hf : xfetch mi pc = some (.iaload, 1)) (hp : xpr mi pc l = l) (hj : rng j) (h0 : 0 ≤ j) (h1 : j < L) (g : rng (xs j.toNat).toInt → wp S mi (pc + 1) l (iv (xs j.toNat).toInt :: st) s Q) : wp S mi pc l (iv j :: rf 0 :: st) s Q := by
  refine wp_step hf hp rfl rfl (fun _ => st_C rfl rfl rfl (F := (pc + 1, l, iv (xs j.toNat).toInt :: st, mk s)) ?_) id (g (rng_to _))
  show (if 1 = 1 then S.bind (fun q => if xin (i32 j) q.1 = true then some (pc + 1, l, Value.int (q.2 (i32 j).toNatClampNeg) :: st, mk s) else none) else none) = _
  rw [if_pos rfl, hS]
  show (if xin (i32 j) L = true then some (pc + 1, l, Value.int (xs (i32 j).toNatClampNeg) :: st, mk s) else none) = _
  rw [if_pos (xin_to hj h0 h1), i32_nat hj, show iv _ = Value.int _ from congrArg Value.int (i32_of _)]
theorem i_scriptlen {L : Nat} {xs : Nat → Int32} (hS : S = some (L, xs)) (hf : xfetch mi pc = some (.arraylength, 1)) (hp : xpr mi pc l = l) (g : wp S mi (pc + 1) l (iv L :: st) s Q) : wp S mi pc l (rf 0 :: st) s Q := by
  refine wp_step hf hp rfl rfl (fun _ => st_C rfl rfl rfl (F := (pc + 1, l, iv L :: st, mk s)) ?_) id g
  show (if 1 = 1 then S.bind (fun q => some (pc + 1, l, Value.int (Int32.ofNat q.1) :: st, mk s)) else none) = _
  rw [if_pos rfl, hS]; rfl
theorem i_len {kk : Nat} (hf : xfetch mi pc = some (.arraylength, 1)) (hp : xpr mi pc l = l) (ha : isA a kk n) (hk : kk = 1 ∨ kk = 2) (g : wp S mi (pc + 1) l (iv n :: st) s Q) : wp S mi pc l (rf a :: st) s Q := by
  obtain ⟨q1, q2, q3⟩ := isA_sh ha
  refine wp_step hf hp rfl rfl (fun _ => st_C rfl rfl rfl (F := (pc + 1, l, iv n :: st, mk s)) ?_) id g
  show (if 1 = 1 then (if a.toNat = 0 then _ else if 2 ≤ a.toNat ∧ a.toNat < mNx (mk s) ∧ ((mSh (mk s) a.toNat).1 = 1 ∨ (mSh (mk s) a.toNat).1 = 2) then some (pc + 1, l, .int (Int32.ofNat (mSh (mk s) a.toNat).2) :: st, mk s) else none) else none) = _
  rw [if_pos rfl, if_neg (by omega), mk_nx, mk_sh, q3, if_pos ⟨q1, q2, hk⟩]; rfl
theorem i_baload (hf : xfetch mi pc = some (.baload, 1)) (hp : xpr mi pc l = l) (ha : isA a 3 n) (hj : rng j) (h0 : 0 ≤ j) (h1 : j < n) (g : rng (zI s a j) → wp S mi (pc + 1) l (iv (zI s a j) :: st) s Q) : wp S mi pc l (iv j :: rf a :: st) s Q := fun hW => by
  obtain ⟨q1, q2, q3⟩ := isA_sh ha
  refine wp_step hf hp rfl rfl (fun _ => st_C rfl rfl rfl (F := (pc + 1, l, iv (zI s a j) :: st, mk s)) ?_) id (g (hW a j)) hW
  show (if 1 = 1 then (if 2 ≤ a.toNat ∧ a.toNat < mNx (mk s) ∧ (mSh (mk s) a.toNat).1 = 3 ∧ xin (i32 j) (mSh (mk s) a.toNat).2 = true then some (pc + 1, l, .int (mI (mk s) a.toNat (i32 j).toNatClampNeg) :: st, mk s) else none) else none) = _
  rw [if_pos rfl, mk_nx, mk_sh, q3, if_pos ⟨q1, q2, rfl, xin_to hj h0 h1⟩, i32_nat hj, mk_I, i32_cast j h0, i32_cast a (by omega)]
theorem i_laload (hf : xfetch mi pc = some (.laload, 1)) (hp : xpr mi pc l = l) (ha : isA a 2 n) (hj : rng j) (h0 : 0 ≤ j) (h1 : j < n) (g : wp S mi (pc + 1) l (.long (zL s a j) :: st) s Q) : wp S mi pc l (iv j :: rf a :: st) s Q := by
  obtain ⟨q1, q2, q3⟩ := isA_sh ha
  refine wp_step hf hp rfl rfl (fun _ => st_C rfl rfl rfl (F := (pc + 1, l, .long (zL s a j) :: st, mk s)) ?_) id g
  show (if 1 = 1 then (if 2 ≤ a.toNat ∧ a.toNat < mNx (mk s) ∧ (mSh (mk s) a.toNat).1 = 2 ∧ xin (i32 j) (mSh (mk s) a.toNat).2 = true then some (pc + 1, l, .long (mL (mk s) a.toNat (i32 j).toNatClampNeg) :: st, mk s) else none) else none) = _
  rw [if_pos rfl, mk_nx, mk_sh, q3, if_pos ⟨q1, q2, rfl, xin_to hj h0 h1⟩, i32_nat hj, mk_L, i32_cast j h0, i32_cast a (by omega)]
theorem i_aaload (hf : xfetch mi pc = some (.aaload, 1)) (hp : xpr mi pc l = l) (ha : isA a (15 + c) n) (hj : rng j) (h0 : 0 ≤ j) (h1 : j < n) {p q : Nat} (hz : zxe c = (p, q)) (he : a + p + q * j = b) (g : wp S mi (pc + 1) l (rf b :: st) s Q) : wp S mi pc l (iv j :: rf a :: st) s Q := by
  have e := zrv_a (m := 0) ha h0 h1
  obtain ⟨q1, q2, q3⟩ := isA_sh ha
  rw [hz, he] at e
  refine wp_step hf hp rfl rfl (fun _ => st_C rfl rfl rfl (F := (pc + 1, l, rf b :: st, mk s)) ?_) id g
  show (if 1 = 1 then (if 2 ≤ a.toNat ∧ a.toNat < mNx (mk s) ∧ 15 ≤ (mSh (mk s) a.toNat).1 ∧ xin (i32 j) (mSh (mk s) a.toNat).2 = true then some (pc + 1, l, xrv (mR (mk s) a.toNat (i32 j).toNatClampNeg) :: st, mk s) else none) else none) = _
  rw [if_pos rfl, mk_nx, mk_sh, q3, if_pos ⟨q1, q2, by show 15 ≤ 15 + c; omega, xin_to hj h0 h1⟩, i32_nat hj, mk_R, e]; rfl
theorem i_iastore (hf : xfetch mi pc = some (.iastore, 1)) (hp : xpr mi pc l = l) (ha : isA a 1 n) (hj : rng j) (h0 : 0 ≤ j) (h1 : j < n) (hx : rng x) (g : wp S mi (pc + 1) l st (zwI s a j x) Q) : wp S mi pc l (iv x :: iv j :: rf a :: st) s Q := by
  obtain ⟨q1, q2, q3⟩ := isA_sh ha
  refine wp_step hf hp rfl rfl (fun _ => st_C rfl rfl rfl (F := (pc + 1, l, st, mk (zwI s a j x))) ?_) (fun hW => Wf_wI hW hx) g
  show (if 1 = 1 then (if 2 ≤ a.toNat ∧ a.toNat < mNx (mk s) ∧ (mSh (mk s) a.toNat).1 = 1 ∧ xin (i32 j) (mSh (mk s) a.toNat).2 = true then some (pc + 1, l, st, wI (mk s) a.toNat (i32 j).toNatClampNeg (i32 x)) else none) else none) = _
  rw [if_pos rfl, mk_nx, mk_sh, q3, if_pos ⟨q1, q2, rfl, xin_to hj h0 h1⟩, i32_nat hj, mk_wI s a j x (by omega) h0]
theorem i_bastore (hf : xfetch mi pc = some (.bastore, 1)) (hp : xpr mi pc l = l) (ha : isA a 3 n) (hj : rng j) (h0 : 0 ≤ j) (h1 : j < n) (g : wp S mi (pc + 1) l st (zwI s a j (zi2b x)) Q) : wp S mi pc l (iv x :: iv j :: rf a :: st) s Q := by
  obtain ⟨q1, q2, q3⟩ := isA_sh ha
  refine wp_step hf hp rfl rfl (fun _ => st_C rfl rfl rfl (F := (pc + 1, l, st, mk (zwI s a j (zi2b x)))) ?_) (fun hW => Wf_wI hW (rng_to _)) g
  show (if 1 = 1 then (if 2 ≤ a.toNat ∧ a.toNat < mNx (mk s) ∧ (mSh (mk s) a.toNat).1 = 3 ∧ xin (i32 j) (mSh (mk s) a.toNat).2 = true then some (pc + 1, l, st, wI (mk s) a.toNat (i32 j).toNatClampNeg (i32 x).toInt8.toInt32) else none) else none) = _
  have e : (i32 x).toInt8.toInt32 = i32 (zi2b x) := (i32_of _).symm
  rw [if_pos rfl, mk_nx, mk_sh, q3, if_pos ⟨q1, q2, rfl, xin_to hj h0 h1⟩, i32_nat hj, e, mk_wI s a j _ (by omega) h0]
theorem i_lastore (hf : xfetch mi pc = some (.lastore, 1)) (hp : xpr mi pc l = l) (ha : isA a 2 n) (hj : rng j) (h0 : 0 ≤ j) (h1 : j < n) (g : wp S mi (pc + 1) l st (zwL s a j u) Q) : wp S mi pc l (.long u :: iv j :: rf a :: st) s Q := by
  obtain ⟨q1, q2, q3⟩ := isA_sh ha
  refine wp_step hf hp rfl rfl (fun _ => st_C rfl rfl rfl (F := (pc + 1, l, st, mk (zwL s a j u))) ?_) (fun hW => hW) g
  show (if 1 = 1 then (if 2 ≤ a.toNat ∧ a.toNat < mNx (mk s) ∧ (mSh (mk s) a.toNat).1 = 2 ∧ xin (i32 j) (mSh (mk s) a.toNat).2 = true then some (pc + 1, l, st, wL (mk s) a.toNat (i32 j).toNatClampNeg u) else none) else none) = _
  rw [if_pos rfl, mk_nx, mk_sh, q3, if_pos ⟨q1, q2, rfl, xin_to hj h0 h1⟩, i32_nat hj, mk_wL s a j u (by omega) h0]
theorem i_plain (hf : xfetch mi pc = some (.getstatic 424, 3)) (hp : xpr mi pc l = l) (ho : xown mi = 9) (g : wp S mi (pc + 3) l (rf 1 :: st) s Q) : wp S mi pc l st s Q :=
  wp_step hf hp rfl rfl (fun _ => st_C rfl rfl rfl (F := (pc + 3, l, rf 1 :: st, mk s)) (by
    show (if 3 = 3 ∧ xown mi = 9 ∧ 424 = 424 then some (pc + 3, l, Value.ref 1 :: st, mk s) else none) = _
    rw [if_pos ⟨rfl, ho, rfl⟩]; rfl)) id g
/-- nullable references -/
theorem i_ifnonnull {off : Int} {t : Nat} (hf : xfetch mi pc = some (.ifnonnull off, 3)) (hp : xpr mi pc l = l) (hj : (pc : Int) + off = (t : Int)) (k1 : 0 ≤ a → wp S mi t l st s Q) (k2 : a < 0 → wp S mi (pc + 3) l st s Q) : wp S mi pc l (orf a :: st) s Q := by
  by_cases h : a < 0
  · rw [orf_neg h]
    exact wp_step hf hp rfl rfl (fun _ => st_B (F := (pc + 3, l, st)) rfl rfl) id (k2 h)
  · rw [orf_pos (by omega)]
    refine wp_step hf hp rfl rfl (fun _ => st_B (F := (t, l, st)) rfl ?_) id (k1 (by omega))
    show (if 3 = 3 then (if 0 ≤ (pc : Int) + off then (fun t => some (t, l, st) : Nat → Option xF3) ((pc : Int) + off).toNat else none) else none) = _
    rw [if_pos rfl, hj, if_pos (Int.natCast_nonneg t), Int.toNat_natCast]
theorem i_ifnull {off : Int} {t : Nat} (hf : xfetch mi pc = some (.ifnull off, 3)) (hp : xpr mi pc l = l) (hj : (pc : Int) + off = (t : Int)) (k1 : a < 0 → wp S mi t l st s Q) (k2 : 0 ≤ a → wp S mi (pc + 3) l st s Q) : wp S mi pc l (orf a :: st) s Q := by
  by_cases h : a < 0
  · rw [orf_neg h]
    refine wp_step hf hp rfl rfl (fun _ => st_B (F := (t, l, st)) rfl ?_) id (k1 h)
    show (if 3 = 3 then (if 0 ≤ (pc : Int) + off then (fun t => some (t, l, st) : Nat → Option xF3) ((pc : Int) + off).toNat else none) else none) = _
    rw [if_pos rfl, hj, if_pos (Int.natCast_nonneg t), Int.toNat_natCast]
  · rw [orf_pos (by omega)]
    exact wp_step hf hp rfl rfl (fun _ => st_B (F := (pc + 3, l, st)) rfl rfl) id (k2 (by omega))
/-- a switch -/
theorem i_switch {d lo hi : Int} {offs : Array Int} {len : Nat} (hf : xfetch mi pc = some (.tableswitch d lo hi offs, len)) (hp : xpr mi pc l = l) (hx : rng x) (hm : x < lo ∨ hi < x ∨ (lo ≤ x ∧ x ≤ hi ∧ (x - lo).toNat < offs.size)) (hin : ∀ t : Nat, lo ≤ x → x ≤ hi → (offs[(x - lo).toNat]?).map (fun o => (pc : Int) + o) = some (t : Int) → wp S mi t l st s Q) (hall : ∀ o ∈ offs, 0 ≤ (pc : Int) + o) (hd : x < lo ∨ hi < x → wp S mi ((pc : Int) + d).toNat l st s Q) (h0 : 0 ≤ (pc : Int) + d) : wp S mi pc l (iv x :: st) s Q := by
  have ex := i32_to x hx
  have e : ∀ F, (if x < lo ∨ hi < x then some ((((pc : Int) + d).toNat, l, st) : xF3) else (offs[(x - lo).toNat]?).bind fun o => if 0 ≤ (pc : Int) + o then some (((pc : Int) + o).toNat, l, st) else none) = some F → xstepB (.tableswitch d lo hi offs) len pc l (iv x :: st) = some F := fun F hF => by
    show (if (i32 x).toInt < lo ∨ hi < (i32 x).toInt then (if 0 ≤ (pc : Int) + d then some ((((pc : Int) + d).toNat, l, st) : xF3) else none) else (offs[((i32 x).toInt - lo).toNat]?).bind fun o => if 0 ≤ (pc : Int) + o then some (((pc : Int) + o).toNat, l, st) else none) = _
    rw [ex, if_pos h0]
    exact hF
  by_cases hh : x < lo ∨ hi < x
  · exact wp_step hf hp rfl rfl (fun _ => st_B (F := (((pc : Int) + d).toNat, l, st)) rfl (e _ (if_pos hh))) id (hd hh)
  · have hm' : lo ≤ x ∧ x ≤ hi ∧ (x - lo).toNat < offs.size := by rcases hm with h | h | h <;> first | exact h | omega
    have eo : offs[(x - lo).toNat]? = some offs[(x - lo).toNat] := Array.getElem?_eq_getElem hm'.2.2
    have h1 := hall _ (Array.getElem_mem hm'.2.2)
    refine wp_step hf hp rfl rfl (fun _ => st_B (F := (((pc : Int) + offs[(x - lo).toNat]).toNat, l, st)) rfl (e _ ?_)) id (hin _ hm'.1 hm'.2.1 ?_)
    · rw [if_neg hh, eo]
      show (if 0 ≤ (pc : Int) + offs[(x - lo).toNat] then _ else _) = _
      rw [if_pos h1]
    · rw [eo]
      show some _ = some _
      rw [Int.toNat_of_nonneg h1]
end OPM
