/-! ===== names of a record; the first table that is free ===== -/
def hasNm (D : Int → Int) (r x : Int) (n : Nat) : Prop := ∃ f : Nat, f < n ∧ dNm D r f = x
def ffT (D : Int → Int) : Nat → Int → Int
  | 0, t => t
  | n + 1, t => if tRc D t = -1 then t else ffT D n (t + 1)
theorem hasNm_s {D : Int → Int} {r x : Int} {n : Nat} : hasNm D r x (n + 1) ↔ hasNm D r x n ∨ dNm D r n = x := by
  constructor
  · rintro ⟨f, h1, h2⟩
    by_cases hf : f = n
    · subst hf; exact .inr h2
    · exact .inl ⟨f, by omega, h2⟩
  · rintro (⟨f, h1, h2⟩ | h)
    · exact ⟨f, by omega, h2⟩
    · exact ⟨n, by omega, h⟩
theorem ffT_b {D : Int → Int} : ∀ (n : Nat) (t : Int), t ≤ ffT D n t ∧ ffT D n t ≤ t + n := by
  intro n
  induction n with
  | zero => intro t; show t ≤ t ∧ t ≤ t + ((0 : Nat) : Int); omega
  | succ n ihn =>
    intro t
    have hz := ihn (t + 1)
    unfold ffT
    split <;> omega
section OPS13
variable {S : Option (Nat × (Nat → Int32))} {Q : Option Value ⊕ Nat → zSt → Prop} {s : zSt} {D : Int → Int} {H : List (Int → Int)} {T : List Int}
theorem C_hasName {r x : Int} (hA : okA D) (hs : cSt s 3 D) (hr : hasRc D r) (hx : rng x) (k1 : Q (rI (bi (hasNm D r x (dN D r).toNat))) s) : wp S 55 0 [(0, rf (7 + 4 * r)), (1, iv x)] [] s Q := by
  have hD0 := hA.1.1
  have hr0 := hr.1
  have hr1 := hr.2
  have hn8 := (hA.1.2 r hr.1 hr.2).2.1
  have hfl := hs.2.1 r hr.1 hr.2
  rw [show (3 : Int) + 4 + 4 * r = 7 + 4 * r by omega] at hfl
  have h1 := hfl.2.1
  have hO := isO_fields (r := r) ⟨by omega, by omega⟩
  have hloop : ∀ (n f : Nat), (f : Int) + n = dN D r → ¬ hasNm D r x f → wp S 55 2 [(0, rf (7 + 4 * r)), (1, iv x), (2, iv f)] [] s Q := by
    intro n
    induction n with
    | zero =>
      intro f hf hno
      refine v_Fields_hasName_2 hO ⟨⟨by omega, by omega⟩, fun _ => ?_, fun hc => by omega⟩
      rw [show (dN D r).toNat = f by omega, bi_F hno] at k1
      exact k1
    | succ n ihn =>
      intro f hf hno
      have hnm := (hfl.2.2 f (by omega)).1
      refine v_Fields_hasName_2 hO ⟨⟨by omega, by omega⟩, fun hc => by omega, fun _ => ⟨⟨by omega, by omega⟩, hx, ?_⟩⟩
      rw [hnm]
      refine ⟨fun hne => ihn (f + 1) (by omega) fun hp => (hasNm_s.mp hp).elim hno hne, fun he => ?_⟩
      have hy : hasNm D r x (dN D r).toNat := ⟨f, by omega, he⟩
      rw [bi_T hy] at k1
      exact k1
  exact v_Fields_hasName_0 hO (hloop (dN D r).toNat 0 (by omega) fun ⟨f, h, _⟩ => absurd h (Nat.not_lt_zero f))
theorem M_hasName {r x : Int} (hA : okA D) (hm : mD s D) (hr : hasRc D r) (hx : rng x) (k1 : Q (rI (bi (hasNm D r x (dN D r).toNat))) s) : wp S 188 0 [(0, rf 252), (1, iv r), (2, iv x)] [] s Q := by
  have hD0 := hA.1.1
  have hr0 := hr.1
  have hr1 := hr.2
  have hn8 := (hA.1.2 r hr.1 hr.2).2.1
  have en : zI s 253 (1 + 26 * r + 1) = dN D r := hm _ (by omega) (by omega)
  have hloop : ∀ (n f : Nat), (f : Int) + n = dN D r → wp S 188 5 [(0, rf 252), (1, iv r), (2, iv x), (3, iv (bi (hasNm D r x f))), (4, iv f)] [] s Q := by
    intro n
    induction n with
    | zero =>
      intro f hf
      refine v_Model_hasName_5 ⟨⟨by omega, by omega⟩, ⟨by omega, by omega⟩, fun _ => ⟨bi_01 _, ?_⟩, fun hc => by omega⟩
      rw [show (dN D r).toNat = f by omega] at k1
      exact k1
    | succ n ihn =>
      intro f hf
      have hgo := ihn (f + 1) (by omega)
      have e1 : zI s 253 (1 + 26 * r + 2 + 3 * f) = dNm D r f := hm _ (by omega) (by omega)
      have hy : hasNm D r x (f + 1) → wp S 188 5 [(0, rf 252), (1, iv r), (2, iv x), (3, iv 1), (4, iv ((f : Int) + 1))] [] s Q := fun hp => by rw [bi_T hp] at hgo; exact hgo
      have hn : ¬ hasNm D r x (f + 1) → wp S 188 5 [(0, rf 252), (1, iv r), (2, iv x), (3, iv 0), (4, iv ((f : Int) + 1))] [] s Q := fun hp => by rw [bi_F hp] at hgo; exact hgo
      refine v_Model_hasName_5 ⟨⟨by omega, by omega⟩, ⟨by omega, by omega⟩, fun hc => by omega, fun _ => ⟨bi_rng _, fun hne => hy (hasNm_s.mpr (.inl (Classical.byContradiction fun hq => hne (bi_0.mpr hq)))), fun he => ⟨⟨by omega, by omega⟩, hx, ?_⟩⟩⟩
      rw [e1]
      exact ⟨fun hne => hn fun hp => (hasNm_s.mp hp).elim (bi_0.mp he) hne, fun hq => hy (hasNm_s.mpr (.inr hq))⟩
  have hz := hloop (dN D r).toNat 0 (by omega)
  rw [bi_F fun (hp : hasNm D r x 0) => by obtain ⟨f, h, _⟩ := hp; exact absurd h (Nat.not_lt_zero f)] at hz
  exact v_Model_hasName_0 hz
theorem X_firstFree (hs : cSt s 3 D) (k1 : Q (rI (if ffT D 3 0 = 3 then -1 else ffT D 3 0)) s) : wp S 106 0 [(0, rf 2)] [] s Q := by
  have hloop : ∀ (n : Nat) (t : Int), 0 ≤ t → t + n = 3 → Q (rI (if ffT D n t = 3 then -1 else ffT D n t)) s → wp S 106 2 [(0, rf 2), (1, iv t)] [] s Q := by
    intro n
    induction n with
    | zero =>
      intro t h0 ht k1
      refine v_RL_firstFreeTable_2 ⟨⟨by omega, by omega⟩, fun _ => ?_, fun hc => by omega⟩
      rw [if_pos (show ffT D 0 t = 3 by show t = 3; omega)] at k1
      exact k1
    | succ n ihn =>
      intro t h0 ht k1
      obtain ⟨l1, l2⟩ := cTb_live hs (t := t) (by omega) (by omega)
      refine v_RL_firstFreeTable_2 ⟨⟨by omega, by omega⟩, fun hc => by omega, fun _ => ⟨⟨by omega, by omega⟩, fun hl => ?_, fun hl => ?_⟩⟩
      · rw [show ffT D (n + 1) t = ffT D n (t + 1) from if_neg (l1.mp hl)] at k1
        exact ihn (t + 1) (by omega) (by omega) k1
      · rw [show ffT D (n + 1) t = t from if_pos (Classical.byContradiction fun hn => l1.mpr hn hl), if_neg (by omega)] at k1
        exact k1
  exact v_RL_firstFreeTable_0 (hloop 3 0 (by omega) (by omega) k1)
end OPS13
