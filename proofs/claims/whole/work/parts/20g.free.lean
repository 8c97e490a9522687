/-! ===== free bytes, and the set of tables ===== -/
def mostD (D : Int → Int) : Nat → Int → Int → Int
  | 0, _, m => m
  | n + 1, b, m => mostD D n (b + 16) (max m (freeD D b))
def freeT (D : Int → Int) : Nat → Int
  | 0 => 1024
  | t + 1 => if tRc D t = -1 then freeT D t else freeT D t - tBy D t
noncomputable def nonT (D : Int → Int) : Nat → Int
  | 0 => 0
  | n + 1 => nonT D n + bi (¬ preT D n 3)
def ovT (D : Int → Int) (t n : Int) : Int := if tRc D t = -1 then 0 else max 0 (min n (tBs D t + tBy D t) - tBs D t)
theorem ovT_s {D : Int → Int} {t n : Int} (hn : 0 ≤ n) (hy : tRc D t ≠ -1 → 1 ≤ tBy D t) : ovT D t (n + 1) = ovT D t n + bi (inT D t n) := by
  by_cases hl : tRc D t = -1
  · rw [bi_F fun h => h.1 hl]
    unfold ovT
    rw [if_pos hl, if_pos hl]
    rfl
  · have h1 := hy hl
    unfold ovT
    rw [if_neg hl, if_neg hl]
    by_cases hi : inT D t n
    · rw [bi_T hi]
      obtain ⟨-, q1, q2⟩ := hi
      omega
    · rw [bi_F hi]
      have hq : ¬ (tBs D t ≤ n ∧ n < tBs D t + tBy D t) := fun h => hi ⟨hl, h⟩
      omega
theorem bi_pre {D : Int → Int} {b : Int} (hA : okA D) : bi (¬ preT D b 3) = 1 - bi (inT D 0 b) - bi (inT D 1 b) - bi (inT D 2 b) := by
  have hd : ∀ t u : Int, 0 ≤ t → t < 3 → 0 ≤ u → u < 3 → t ≠ u → inT D t b → ¬ inT D u b := fun t u t0 t1 u0 u1 hne ht hu => by
    have hz := hA.2.2.2 t u t0 t1 u0 u1 hne ht.1 hu.1
    have h1 := ht.2
    have h2 := hu.2
    omega
  have hp : preT D b 3 ↔ (inT D 0 b ∨ inT D 1 b ∨ inT D 2 b) := by
    constructor
    · rintro (((h | h) | h) | h)
      · exact False.elim h
      · exact .inl h
      · exact .inr (.inl h)
      · exact .inr (.inr h)
    · rintro (h | h | h)
      · exact .inl (.inl (.inr h))
      · exact .inl (.inr h)
      · exact .inr h
  rcases Classical.em (inT D 0 b) with h0 | h0
  · rw [bi_F (fun h => h (hp.mpr (.inl h0))), bi_T h0, bi_F (hd 0 1 (by omega) (by omega) (by omega) (by omega) (by omega) h0), bi_F (hd 0 2 (by omega) (by omega) (by omega) (by omega) (by omega) h0)]
    rfl
  · rcases Classical.em (inT D 1 b) with h1 | h1
    · rw [bi_F (fun h => h (hp.mpr (.inr (.inl h1)))), bi_F h0, bi_T h1, bi_F (hd 1 2 (by omega) (by omega) (by omega) (by omega) (by omega) h1)]
      rfl
    · rcases Classical.em (inT D 2 b) with h2 | h2
      · rw [bi_F (fun h => h (hp.mpr (.inr (.inr h2)))), bi_F h0, bi_F h1, bi_T h2]
        rfl
      · rw [bi_T (fun h => (hp.mp h).elim h0 fun h => h.elim h1 h2), bi_F h0, bi_F h1, bi_F h2]
        rfl
theorem nonT_eq {D : Int → Int} (hA : okA D) : ∀ n : Nat, nonT D n = n - ovT D 0 n - ovT D 1 n - ovT D 2 n := by
  have hy : ∀ t : Int, 0 ≤ t → t < 3 → tRc D t ≠ -1 → 1 ≤ tBy D t := fun t h0 h1 h2 => tBy_pos hA ⟨h0, h1, h2⟩
  have hb : ∀ t : Int, 0 ≤ t → t < 3 → tRc D t ≠ -1 → 0 ≤ tBs D t := fun t h0 h1 h2 => (isLv_ok hA ⟨h0, h1, h2⟩).2.2.2.2.2.1.1
  have hz : ∀ t : Int, 0 ≤ t → t < 3 → ovT D t 0 = 0 := fun t h0 h1 => by
    unfold ovT
    split
    · rfl
    · rename_i hl
      have q1 := hy t h0 h1 hl
      have q2 := hb t h0 h1 hl
      omega
  intro n
  induction n with
  | zero =>
    have e0 := hz 0 (by omega) (by omega)
    have e1 := hz 1 (by omega) (by omega)
    have e2 := hz 2 (by omega) (by omega)
    show (0 : Int) = ((0 : Nat) : Int) - ovT D 0 ((0 : Nat) : Int) - ovT D 1 ((0 : Nat) : Int) - ovT D 2 ((0 : Nat) : Int)
    rw [show ((0 : Nat) : Int) = 0 from rfl, e0, e1, e2]
    rfl
  | succ n ihn =>
    have e0 := ovT_s (n := n) (by omega) (hy 0 (by omega) (by omega))
    have e1 := ovT_s (n := n) (by omega) (hy 1 (by omega) (by omega))
    have e2 := ovT_s (n := n) (by omega) (hy 2 (by omega) (by omega))
    have ep := bi_pre (b := n) hA
    show nonT D n + bi (¬ preT D n 3) = _
    rw [show ((n + 1 : Nat) : Int) = (n : Int) + 1 by omega, e0, e1, e2, ep, ihn]
    omega
theorem nonT_all {D : Int → Int} (hA : okA D) : nonT D 1024 = freeT D 3 := by
  have hv : ∀ t : Int, 0 ≤ t → t < 3 → ovT D t 1024 = if tRc D t = -1 then 0 else tBy D t := fun t h0 h1 => by
    unfold ovT
    split
    · rfl
    · rename_i hl
      have q1 := tBy_pos hA ⟨h0, h1, hl⟩
      have q2 := (isLv_ok hA ⟨h0, h1, hl⟩).2.2.2.2.2
      have q3 := q2.1.1
      have q4 := q2.2.2
      omega
  have hz := nonT_eq hA 1024
  rw [show ((1024 : Nat) : Int) = 1024 from rfl, hv 0 (by omega) (by omega), hv 1 (by omega) (by omega), hv 2 (by omega) (by omega)] at hz
  have hf : freeT D 3 = 1024 - (if tRc D 0 = -1 then 0 else tBy D 0) - (if tRc D 1 = -1 then 0 else tBy D 1) - (if tRc D 2 = -1 then 0 else tBy D 2) := by
    have s1 : freeT D 1 = 1024 - (if tRc D 0 = -1 then 0 else tBy D 0) := by
      show (if tRc D 0 = -1 then (1024 : Int) else 1024 - tBy D 0) = _
      split <;> omega
    have s2 : freeT D 2 = freeT D 1 - (if tRc D 1 = -1 then 0 else tBy D 1) := by
      show (if tRc D 1 = -1 then freeT D 1 else freeT D 1 - tBy D 1) = _
      split <;> omega
    have s3 : freeT D 3 = freeT D 2 - (if tRc D 2 = -1 then 0 else tBy D 2) := by
      show (if tRc D 2 = -1 then freeT D 2 else freeT D 2 - tBy D 2) = _
      split <;> omega
    rw [s3, s2, s1]
  rw [hf, hz]
def tabS (D : Int → Int) : Nat → Int
  | 0 => 0
  | t + 1 => if tRc D t = -1 then tabS D t else zor (tabS D t) (zshl 1 t)
theorem zor_rng (x y : Int) : rng (zor x y) := by
  unfold zor
  have h1 := Int32.le_toInt (i32 x ||| i32 y)
  have h2 := Int32.toInt_lt (i32 x ||| i32 y)
  exact ⟨by omega, by omega⟩
theorem tabS_rng (D : Int → Int) (n : Nat) : rng (tabS D n) := by
  induction n with
  | zero => show rng 0; exact ⟨by omega, by omega⟩
  | succ n ihn =>
    unfold tabS
    split
    · exact ihn
    · exact zor_rng _ _
theorem zor_0 {x : Int} (h : rng x) : zor x 0 = x := by
  unfold zor
  rw [show i32 0 = 0 from rfl, Int32.or_zero, i32_to x h]
section OPS12
variable {S : Option (Nat × (Nat → Int32))} {Q : Option Value ⊕ Nat → zSt → Prop} {s : zSt} {D : Int → Int} {H : List (Int → Int)} {T : List Int}
theorem X_tables (h : cRel s D H T) (k1 : Q (rI (tabS D 3)) s) : wp S 12 0 [(0, rf 2)] [] s Q := by
  have hloop : ∀ (n t : Nat), t + n = 3 → wp S 12 4 [(0, rf 2), (1, iv (tabS D t)), (2, iv t)] [] s Q := by
    intro n
    induction n with
    | zero =>
      intro t ht
      have h3 : t = 3 := by omega
      subst h3
      exact v_RL_tables_4 ⟨⟨by decide, by decide⟩, fun _ => k1, fun hc => absurd hc (by decide)⟩
    | succ n ihn =>
      intro t ht
      have hgo := ihn (t + 1) (by omega)
      obtain ⟨l1, l2⟩ := cTb_live h.1 (t := t) (by omega) (by omega)
      refine v_RL_tables_4 ⟨⟨by omega, by omega⟩, fun hc => by omega, fun _ => ⟨⟨by omega, by omega⟩, fun h0 => ?_, fun h0 => ?_⟩⟩
      · rw [show tabS D (t + 1) = tabS D t from if_pos (Classical.byContradiction fun hn => l1.mpr hn h0)] at hgo
        exact hgo
      · rw [show tabS D (t + 1) = zor (tabS D t) (zshl 1 t) from if_neg (l1.mp h0)] at hgo
        exact hgo
  exact v_RL_tables_0 (hloop 3 0 (by omega))
theorem M_tableSet (h : mRel s D H T) (k1 : Q (rI (tabS D 3)) s) : wp S 240 0 [(0, rf 252)] [] s Q := by
  have hloop : ∀ (n t : Nat), t + n = 3 → wp S 240 4 [(0, rf 252), (1, iv (tabS D t)), (2, iv t)] [] s Q := by
    intro n
    induction n with
    | zero =>
      intro t ht
      have h3 : t = 3 := by omega
      subst h3
      exact v_Model_tableSet_4 ⟨⟨by decide, by decide⟩, fun _ => k1, fun hc => absurd hc (by decide)⟩
    | succ n ihn =>
      intro t ht
      have hgo := ihn (t + 1) (by omega)
      have hl := m_live (t := t) h
      refine v_Model_tableSet_4 ⟨⟨by omega, by omega⟩, fun hc => by omega, fun _ => ⟨fun h0 => ?_, fun h0 => ?_⟩⟩
      · rw [show tabS D (t + 1) = tabS D t from if_pos (Classical.byContradiction fun hn => h0 (hl.mpr ⟨by omega, by omega, hn⟩))] at hgo
        rw [zor_0 (tabS_rng D t)]
        exact hgo
      · rw [show tabS D (t + 1) = zor (tabS D t) (zshl 1 t) from if_neg (hl.mp h0).2.2] at hgo
        exact hgo
  exact v_Model_tableSet_0 (hloop 3 0 (by omega))
theorem M_tables (h : mRel s D H T) (k1 : ∀ u, frm modC s u → zI u 252 3 = 0 → mRel u D H T → Q (rI (tabS D 3)) u) : wp S 239 0 [(0, rf 252)] [] s Q := by
  have hm := mRel_252 (k := 3) (v := 0) h ⟨by omega, by omega⟩
  exact v_Model_tables_0 (M_tableSet hm (zkI_I (tabS_rng D 3) (k1 _ (frm_I frm_refl (by unfold modC; omega)) zI_eq hm)))
noncomputable def fbD (D : Int → Int) (x : Int) : Int := if x = 0 then freeT D 3 else mostD D 64 0 0
theorem X_freeBytes {x : Int} (hA : okA D) (h : cRel s D H T) (hx : rng x) (k1 : Q (rI (fbD D x)) s) : wp S 13 0 [(0, rf 2), (1, iv x)] [] s Q := by
  refine v_RL_freeBytes_0 ⟨hx, fun h0 => ?_, fun h0 => ?_⟩
  · rw [show fbD D x = freeT D 3 from if_pos h0] at k1
    have hloop : ∀ (n t : Nat), t + n = 3 → wp S 13 39 [(0, rf 2), (2, iv (freeT D t)), (3, iv t)] [] s Q := by
      intro n
      induction n with
      | zero =>
        intro t ht
        have h3 : t = 3 := by omega
        subst h3
        exact v_RL_freeBytes_39 ⟨⟨by decide, by decide⟩, fun _ => k1, fun hc => absurd hc (by decide)⟩
      | succ n ihn =>
        intro t ht
        have hgo := ihn (t + 1) (by omega)
        obtain ⟨l1, l2⟩ := cTb_live h.1 (t := t) (by omega) (by omega)
        refine v_RL_freeBytes_39 ⟨⟨by omega, by omega⟩, fun hc => by omega, fun _ => ⟨⟨by omega, by omega⟩, fun h0 => ?_, fun h0 => ?_⟩⟩
        · rw [show freeT D (t + 1) = freeT D t from if_pos (Classical.byContradiction fun hn => l1.mpr hn h0)] at hgo
          exact hgo
        · have hl := l1.mp h0
          have e6 := l2 hl 5 (by omega) (by omega)
          rw [show (5 : Int) + 1 = 6 by omega] at e6
          rw [show freeT D (t + 1) = freeT D t - tBy D t from if_neg hl] at hgo
          rw [show zI s (31 + (t : Int)) 6 = tBy D t from e6]
          exact hgo
    exact hloop 3 0 (by omega)
  · rw [show fbD D x = mostD D 64 0 0 from if_neg h0] at k1
    have hloop : ∀ (n : Nat) (b m : Int), 0 ≤ b → b + 16 * n = 1024 → (0 ≤ m ∧ m ≤ 1024) → Q (rI (mostD D n b m)) s → wp S 13 8 [(0, rf 2), (2, iv m), (3, iv b)] [] s Q := by
      intro n
      induction n with
      | zero => intro b m h0 h1 hm k1; exact v_RL_freeBytes_8 ⟨⟨by omega, by omega⟩, fun _ => k1, fun hc => by omega⟩
      | succ n ihn =>
        intro b m h0 h1 hm k1
        have hfb := freeD_b (D := D) (b := b) (by omega)
        exact v_RL_freeBytes_8 ⟨⟨by omega, by omega⟩, fun hc => by omega, fun _ => X_freeFrom hA h.1 ⟨h0, by omega⟩ (zkI_I ⟨by omega, by omega⟩ ⟨⟨by omega, by omega⟩, ihn (b + 16) _ (by omega) (by omega) ⟨by omega, by omega⟩ k1⟩)⟩
    exact hloop 64 0 0 (by omega) (by omega) (by omega) k1
theorem M_freeBytes {x : Int} (hA : okA D) (h : mRel s D H T) (hx : rng x) (k1 : ∀ u, frm modC s u → zI u 252 3 = 0 → mRel u D H T → Q (rI (fbD D x)) u) : wp S 256 0 [(0, rf 252), (1, iv x)] [] s Q := by
  have hm := mRel_252 (k := 3) (v := 0) h ⟨by omega, by omega⟩
  have k2 := k1 _ (frm_I frm_refl (by unfold modC; omega)) zI_eq hm
  refine v_Model_freeBytes_0 ⟨hx, fun h0 => ?_, fun h0 => ?_⟩
  · rw [show fbD D x = freeT D 3 from if_pos h0, ← nonT_all hA] at k2
    have hloop : ∀ (n b : Nat), b + n = 1024 → wp S 256 51 [(0, rf 252), (2, iv (nonT D b)), (3, iv b)] [] (zwI s 252 3 0) Q := by
      intro n
      induction n with
      | zero =>
        intro b hb
        have h3 : b = 1024 := by omega
        subst h3
        exact v_Model_freeBytes_51 ⟨⟨by decide, by decide⟩, fun _ => k2, fun hc => absurd hc (by decide)⟩
      | succ n ihn =>
        intro b hb
        have hgo := ihn (b + 1) (by omega)
        refine v_Model_freeBytes_51 ⟨⟨by omega, by omega⟩, fun hc => by omega, fun _ => M_taken hA hm.1 ⟨by omega, by omega⟩ (zkI_I (bi_rng _) ⟨fun h0 => ?_, fun h0 => ?_⟩)⟩
        · rw [show nonT D (b + 1) = nonT D b + 1 by show nonT D b + bi _ = _; rw [bi_T (bi_0.mp h0)]] at hgo
          exact hgo
        · rw [show nonT D (b + 1) = nonT D b + 0 by show nonT D b + bi _ = _; rw [bi_F fun hn => h0 (bi_0.mpr hn)]] at hgo
          exact hgo
    exact hloop 1024 0 (by omega)
  · rw [show fbD D x = mostD D 64 0 0 from if_neg h0] at k2
    have hloop : ∀ (n : Nat) (b m : Int), 0 ≤ b → b + 16 * n = 1024 → (0 ≤ m ∧ m ≤ 1024) → Q (rI (mostD D n b m)) (zwI s 252 3 0) → wp S 256 13 [(0, rf 252), (2, iv m), (3, iv b)] [] (zwI s 252 3 0) Q := by
      intro n
      induction n with
      | zero => intro b m h0 h1 hmm k1; exact v_Model_freeBytes_13 ⟨⟨by omega, by omega⟩, fun _ => k1, fun hc => by omega⟩
      | succ n ihn =>
        intro b m h0 h1 hmm k1
        have hfb := freeD_b (D := D) (b := b) (by omega)
        have hgo := ihn (b + 16) _ (by omega) (by omega) ⟨by omega, by omega⟩ k1
        refine v_Model_freeBytes_13 ⟨⟨by omega, by omega⟩, fun hc => by omega, fun _ => M_freeFrom hA hm.1 ⟨h0, by omega⟩ (zkI_I ⟨by omega, by omega⟩ ⟨⟨by omega, by omega⟩, fun hle => ?_, fun hlt => ?_⟩)⟩
        · rw [show max m (freeD D b) = m by omega] at hgo; exact hgo
        · rw [show max m (freeD D b) = freeD D b by omega] at hgo; exact hgo
    exact hloop 64 0 0 (by omega) (by omega) (by omega) k2
end OPS12
