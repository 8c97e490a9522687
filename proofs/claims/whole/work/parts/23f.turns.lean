/-! ===== the next order ===== -/
theorem pm_rest {n m : Nat} {o p : Nat → Int} (ho : isPm n o) (hp : isPm n p) (hm : m < n) (h : ∀ i, i < m → p i = o i) : ∃ i, m ≤ i ∧ i < n ∧ o i = p m := by
  have h1 := hp.1 m hm
  obtain ⟨j, j1, j2⟩ := pm_surj ho (f := (p m).toNat) (by omega)
  have e : o j = p m := by omega
  refine ⟨j, ?_, j1, e⟩
  refine Classical.byContradiction fun hc => ?_
  have h2 := h j (by omega)
  have := hp.2 j m j1 hm (by rw [h2, e])
  omega
theorem pm_desc {n k : Nat} {o p : Nat → Int} (ho : isPm n o) (hp : isPm n p) (hd : ∀ i j, k ≤ i → i < j → j < n → o j < o i) (h : ∀ i, i < k → p i = o i) : ltx n p o ∨ ∀ i, i < n → p i = o i := by
  rcases ltx_tri (n := n) p o with hl | hl | ⟨m, m1, m2, m3⟩
  · exact .inl hl
  · exact .inr hl
  · have hmk : k ≤ m := by
      refine Classical.byContradiction fun hc => ?_
      have := h m (by omega)
      omega
    obtain ⟨i, i1, i2, i3⟩ := pm_rest ho hp m1 fun i hi => (m2 i hi).symm
    by_cases hc : i = m
    · subst hc; omega
    · have := hd m i hmk (by omega) i2
      omega
def nxS (n k j i : Nat) : Nat := if i < k then i else if i = k then j else if n + k - i = j then k else n + k - i
theorem nxS_lt {n k j i : Nat} (hk : k < j) (hj : j < n) (hi : i < n) : nxS n k j i < n := by
  unfold nxS
  split
  · omega
  · split
    · omega
    · split <;> omega
theorem nxS_inj {n k j i i' : Nat} (hk : k < j) (hj : j < n) (hi : i < n) (hi' : i' < n) (h : nxS n k j i = nxS n k j i') : i = i' := by
  unfold nxS at h
  split at h
  · split at h
    · exact h
    · split at h
      · omega
      · split at h <;> omega
  · split at h
    · split at h
      · omega
      · split at h
        · omega
        · split at h <;> omega
    · split at h
      · split at h
        · omega
        · split at h
          · omega
          · split at h <;> omega
      · split at h
        · omega
        · split at h
          · omega
          · split at h <;> omega
theorem nx_perm {n k j : Nat} {o o' : Nat → Int} (ho : isPm n o) (hk : k < j) (hj : j < n) (hkj : o k < o j) (hd : ∀ a b, k < a → a < b → b < n → o b < o a) (hl : ∀ i, j < i → i < n → o i < o k) (h' : ∀ i, i < n → o' i = o (nxS n k j i)) :
    isPm n o' ∧ ltx n o o' ∧ ∀ p, isPm n p → ltx n p o' → ltx n p o ∨ ∀ i, i < n → p i = o i := by
  have hpm : isPm n o' := by
    refine ⟨fun i hi => ?_, fun i i' hi hi' he => ?_⟩
    · rw [h' i hi]; exact ho.1 _ (nxS_lt hk hj hi)
    · rw [h' i hi, h' i' hi'] at he
      exact nxS_inj hk hj hi hi' (ho.2 _ _ (nxS_lt hk hj hi) (nxS_lt hk hj hi') he)
  have e1 : ∀ i, i < k → o' i = o i := fun i hi => by rw [h' i (by omega)]; unfold nxS; rw [if_pos hi]
  have e2 : o' k = o j := by rw [h' k (by omega)]; unfold nxS; rw [if_neg (by omega), if_pos rfl]
  have e3 : ∀ i, k < i → i < n → o' i = o (if n + k - i = j then k else n + k - i) := fun i hi hin => by rw [h' i hin]; unfold nxS; rw [if_neg (by omega), if_neg (by omega)]
  have hasc : ∀ a b, k < a → a < b → b < n → o' a < o' b := by
    intro a b ha hab hb
    rw [e3 a ha (by omega), e3 b (by omega) hb]
    by_cases c1 : n + k - a = j
    · rw [if_pos c1, if_neg (by omega)]
      have := hd (n + k - b) j (by omega) (by omega) hj
      omega
    · rw [if_neg c1]
      by_cases c2 : n + k - b = j
      · rw [if_pos c2]
        exact hl _ (by omega) (by omega)
      · rw [if_neg c2]
        exact hd _ _ (by omega) (by omega) (by omega)
  refine ⟨hpm, ⟨k, by omega, fun i hi => (e1 i hi).symm, by rw [e2]; exact hkj⟩, fun p hp ⟨m, m1, m2, m3⟩ => ?_⟩
  by_cases hmk : m < k
  · exact .inl ⟨m, m1, fun i hi => (m2 i hi).trans (e1 i (by omega)), by rw [← e1 m hmk]; exact m3⟩
  · by_cases hmk2 : m = k
    · subst hmk2
      have hpe : ∀ i, i < m → p i = o i := fun i hi => (m2 i hi).trans (e1 i hi)
      obtain ⟨i, i1, i2, i3⟩ := pm_rest ho hp m1 hpe
      by_cases hc : i = m
      · subst hc
        refine pm_desc (k := i + 1) ho hp (fun a b ha hab hb => hd a b (by omega) hab hb) fun x hx => ?_
        by_cases hxi : x = i
        · subst hxi; exact i3.symm
        · exact hpe x (by omega)
      · left
        refine ⟨m, m1, hpe, ?_⟩
        rw [e2] at m3
        have hij : j < i := by
          refine Classical.byContradiction fun hn => ?_
          by_cases hij : i = j
          · subst hij; omega
          · have := hd i j (by omega) (by omega) hj
            omega
        have := hl i hij i2
        omega
    · obtain ⟨i, i1, i2, i3⟩ := pm_rest hpm hp m1 m2
      by_cases hc : i = m
      · subst hc; omega
      · have := hasc m i (by omega) (by omega) i2
        omega
theorem ltx_trans {n : Nat} {a b c : Nat → Int} (h1 : ltx n a b) (h2 : ltx n b c) : ltx n a c := by
  obtain ⟨k, k1, k2, k3⟩ := h1
  obtain ⟨m, m1, m2, m3⟩ := h2
  by_cases hc : k < m
  · exact ⟨k, k1, fun j hj => (k2 j hj).trans (m2 j (by omega)), by rw [← m2 k hc]; exact k3⟩
  · by_cases hc2 : k = m
    · subst hc2; exact ⟨k, k1, fun j hj => (k2 j hj).trans (m2 j hj), by omega⟩
    · exact ⟨m, m1, fun j hj => (k2 j (by omega)).trans (m2 j hj), by rw [k2 m (by omega)]; exact m3⟩
theorem ltx_eq {n : Nat} {a b c : Nat → Int} (h : ∀ i, i < n → a i = b i) (h2 : ltx n b c) : ltx n a c := by
  obtain ⟨m, m1, m2, m3⟩ := h2
  exact ⟨m, m1, fun j hj => (h j (by omega)).trans (m2 j hj), by rw [h m m1]; exact m3⟩
/-! a number that grows with the order -/
def vlN (o : Nat → Int) : Nat → Int
  | 0 => 0
  | k + 1 => 8 * vlN o k + o k
theorem vlN_lt {n : Nat} {o p : Nat → Int} (hn : n ≤ 8) (ho : isPm n o) (hp : isPm n p) (h : ltx n o p) : vlN o n < vlN p n := by
  obtain ⟨k, k1, k2, k3⟩ := h
  have he : ∀ m, m ≤ k → vlN o m = vlN p m := by
    intro m
    induction m with
    | zero => intro _; rfl
    | succ m ihm => intro hm; unfold vlN; rw [ihm (by omega), k2 m (by omega)]
  have hlt : ∀ m, m + (k + 1) ≤ n → vlN o (m + (k + 1)) < vlN p (m + (k + 1)) := by
    intro m
    induction m with
    | zero =>
      intro _
      rw [Nat.zero_add]
      unfold vlN
      rw [he k (Nat.le_refl _)]
      omega
    | succ m ihm =>
      intro hm
      have h1 := ihm (by omega)
      have h2 := ho.1 (m + (k + 1)) (by omega)
      have h3 := hp.1 (m + (k + 1)) (by omega)
      rw [show m + 1 + (k + 1) = (m + (k + 1)) + 1 by omega]
      show 8 * vlN o (m + (k + 1)) + o (m + (k + 1)) < 8 * vlN p (m + (k + 1)) + p (m + (k + 1))
      omega
  have := hlt (n - (k + 1)) (by omega)
  rw [show n - (k + 1) + (k + 1) = n by omega] at this
  exact this
theorem vlN_b {n : Nat} {o : Nat → Int} (hn : n ≤ 8) (ho : isPm n o) : 0 ≤ vlN o n ∧ vlN o n < 16777216 := by
  have h : ∀ m, m ≤ n → 0 ≤ vlN o m ∧ vlN o m < 8 ^ m := by
    intro m
    induction m with
    | zero => intro _; exact ⟨by show (0 : Int) ≤ 0; omega, by show (0 : Int) < 8 ^ 0; decide⟩
    | succ m ihm =>
      intro hm
      have h1 := ihm (by omega)
      have h2 := ho.1 m (by omega)
      rw [Int.pow_succ]
      show 0 ≤ 8 * vlN o m + o m ∧ 8 * vlN o m + o m < _
      omega
  have h1 := h n (Nat.le_refl n)
  have h2 : (8 : Int) ^ n ≤ 8 ^ 8 := by
    have := Nat.pow_le_pow_right (show 0 < 8 by decide) hn
    exact_mod_cast this
  rw [show (8 : Int) ^ 8 = 16777216 by decide] at h2
  omega
section TURN
variable {S : Option (Nat × (Nat → Int32))} {Q : Option Value ⊕ Nat → zSt → Prop} {n : Nat} {o : Nat → Int}
/-- the cells when the tail is being turned -/
def trW (n k j : Nat) (o : Nat → Int) (a b i : Nat) : Int := if k < i ∧ (i < a ∨ b < i) then o (nxS n k j i) else if i = k then o j else if i = j then o k else o i
theorem trW_in {n k j a b x : Nat} {o : Nat → Int} (h : k < x) (h1 : a ≤ x) (h2 : x ≤ b) : trW n k j o a b x = if x = j then o k else o x := by
  unfold trW
  rw [if_neg (show ¬ (k < x ∧ (x < a ∨ b < x)) by omega), if_neg (show ¬ x = k by omega)]
theorem trW_out {n k j a b x y : Nat} {o : Nat → Int} (h : k < x) (h1 : x < a ∨ b < x) (hy : n + k - x = y) : trW n k j o a b x = if y = j then o k else o y := by
  unfold trW nxS
  rw [if_pos (show k < x ∧ (x < a ∨ b < x) from ⟨h, h1⟩), if_neg (show ¬ x < k by omega), if_neg (show ¬ x = k by omega), hy]
  by_cases hc : y = j
  · rw [if_pos hc, if_pos hc]
  · rw [if_neg hc, if_neg hc]
theorem M_tu_78 {k j : Nat} (hk : k < j) (hj : j < n) (hn : n ≤ 8) (m : Nat) : ∀ (a b : Nat) (s : zSt), k < a → a + b = n + k → b < a + m → (∀ i : Nat, i < n → zI s 265 i = trW n k j o a b i) → (∀ u, frm (fun x => x = 265) s u → (∀ i : Nat, i < n → zI u 265 i = o (nxS n k j i)) → Q (rI 1) u) →
    wp S 217 78 [(0, rf 252), (4, iv a), (5, iv b)] [] s Q := by
  induction m with
  | zero =>
    intro a b s ha hab hm hc hQ
    refine v_Model_turns_78 ⟨⟨by omega, by omega⟩, ⟨by omega, by omega⟩, fun _ => hQ s frm_refl fun i hi => ?_, fun hcc => by omega⟩
    rw [hc i hi]
    unfold trW
    by_cases h1 : k < i ∧ (i < a ∨ b < i)
    · rw [if_pos h1]
    · rw [if_neg h1]
      unfold nxS
      by_cases h2 : i < k
      · rw [if_pos h2, if_neg (by omega), if_neg (by omega)]
      · rw [if_neg h2]
        have h3 : i = k := by omega
        rw [if_pos h3, if_pos h3]
  | succ m ihm =>
    intro a b s ha hab hm hc hQ
    by_cases hba : b ≤ a
    · refine v_Model_turns_78 ⟨⟨by omega, by omega⟩, ⟨by omega, by omega⟩, fun _ => hQ s frm_refl fun i hi => ?_, fun hcc => by omega⟩
      rw [hc i hi]
      unfold trW
      by_cases h1 : k < i ∧ (i < a ∨ b < i)
      · rw [if_pos h1]
      · rw [if_neg h1]
        unfold nxS
        by_cases h2 : i < k
        · rw [if_pos h2, if_neg (by omega), if_neg (by omega)]
        · rw [if_neg h2]
          by_cases h3 : i = k
          · rw [if_pos h3, if_pos h3]
          · rw [if_neg h3, if_neg h3]
            have h4 : n + k - i = i := by omega
            rw [h4]
            by_cases h5 : i = j
            · rw [if_pos h5, if_pos h5]
            · rw [if_neg h5, if_neg h5]
    · have hca := hc a (by omega)
      have hcb := hc b (by omega)
      refine v_Model_turns_78 ⟨⟨by omega, by omega⟩, ⟨by omega, by omega⟩, fun hcc => by omega, fun _ => ⟨⟨by omega, by omega⟩, ⟨by omega, by omega⟩, ?_⟩⟩
      rw [hca, hcb]
      have hfr : frm (fun x => x = 265) s (zwI (zwI s 265 a (trW n k j o a b b)) 265 b (trW n k j o a b a)) := frm_I (frm_I frm_refl rfl) rfl
      have hz := ihm (a + 1) (b - 1) (zwI (zwI s 265 a (trW n k j o a b b)) 265 b (trW n k j o a b a)) (by omega) (by omega) (by omega) (fun i hi => ?_) fun u hfu hu => hQ u (frm_trans hfr hfu) hu
      · rw [show ((a + 1 : Nat) : Int) = (a : Int) + 1 by omega, show ((b - 1 : Nat) : Int) = (b : Int) + (-1) by omega] at hz
        exact hz
      · by_cases hib : i = b
        · subst hib
          rw [zI_eq, trW_in (by omega) (Nat.le_refl _) (by omega), trW_out (y := a) (by omega) (by omega) (by omega)]
        · rw [zI_nj (by omega)]
          by_cases hia : i = a
          · subst hia
            rw [zI_eq, trW_in (by omega) (by omega) (Nat.le_refl _), trW_out (y := b) (by omega) (by omega) (by omega)]
          · rw [zI_nj (by omega), hc i hi]
            unfold trW
            by_cases h1 : k < i ∧ (i < a ∨ b < i)
            · rw [if_pos h1, if_pos (show k < i ∧ (i < a + 1 ∨ b - 1 < i) by omega)]
            · rw [if_neg h1, if_neg (show ¬ (k < i ∧ (i < a + 1 ∨ b - 1 < i)) by omega)]
theorem M_turns {s : zSt} (hn : n ≤ 8) (ho : isPm n o) (hc : ∀ i : Nat, i < n → zI s 265 i = o i) (k1 : (∀ p, isPm n p → ltx n p o ∨ ∀ i, i < n → p i = o i) → Q (rI 0) s)
    (k2 : ∀ (u : zSt) (o' : Nat → Int), frm (fun x => x = 265) s u → (∀ i : Nat, i < n → zI u 265 i = o' i) → isPm n o' → ltx n o o' → (∀ p, isPm n p → ltx n p o' → ltx n p o ∨ ∀ i, i < n → p i = o i) → Q (rI 1) u) : wp S 217 0 [(0, rf 252), (1, iv n)] [] s Q := by
  have hfull : ∀ k : Nat, (∀ i, k ≤ i → i + 1 < n → o (i + 1) < o i) → ∀ (d i : Nat), k ≤ i → i + (d + 1) < n → o (i + (d + 1)) < o i := by
    intro k hk d
    induction d with
    | zero => intro i hi hin; exact hk i hi hin
    | succ d ihd =>
      intro i hi hin
      have h1 := ihd i hi (by omega)
      have h2 := hk (i + (d + 1)) (by omega) (by omega)
      rw [show i + (d + 1 + 1) = i + (d + 1) + 1 by omega]
      omega
  have hdesc : ∀ k : Nat, (∀ i, k ≤ i → i + 1 < n → o (i + 1) < o i) → ∀ i j, k ≤ i → i < j → j < n → o j < o i := by
    intro k hk i j hi hij hj
    have := hfull k hk (j - i - 1) i hi (by omega)
    rw [show i + (j - i - 1 + 1) = j by omega] at this
    exact this
  have h41 : ∀ (k : Nat), k + 1 < n → o k < o (k + 1) → (∀ i, k + 1 ≤ i → i + 1 < n → o (i + 1) < o i) → ∀ (m j : Nat), j = k + 1 + m → j < n → (∀ i, j < i → i < n → o i < o k) → wp S 217 41 [(0, rf 252), (1, iv n), (2, iv k), (3, iv j)] [] s Q := by
    intro k hk hkk hd m
    induction m with
    | zero =>
      intro j hjm hj hl
      have hck := hc k (by omega)
      have hcj := hc j hj
      have hjo : o k < o j := by rw [hjm]; exact hkk
      refine v_Model_turns_41 ⟨⟨by omega, by omega⟩, ⟨by omega, by omega⟩, ?_⟩
      rw [hck, hcj]
      refine ⟨fun _ => ?_, fun hcc => by omega⟩
      have hfr : frm (fun x => x = 265) s (zwI (zwI s 265 k (o j)) 265 j (o k)) := frm_I (frm_I frm_refl rfl) rfl
      have hz := M_tu_78 (S := S) (Q := Q) (n := n) (o := o) (k := k) (j := j) (by omega) hj hn n (k + 1) (n - 1) (zwI (zwI s 265 k (o j)) 265 j (o k)) (by omega) (by omega) (by omega) (fun i hi => ?_) fun u hfu hu => ?_
      · rw [show ((k + 1 : Nat) : Int) = (k : Int) + 1 by omega, show ((n - 1 : Nat) : Int) = (n : Int) - 1 by omega] at hz
        exact hz
      · unfold trW
        rw [if_neg (by omega)]
        by_cases hij : i = j
        · subst hij; rw [zI_eq, if_neg (by omega), if_pos rfl]
        · rw [zI_nj (by omega)]
          by_cases hik : i = k
          · subst hik; rw [zI_eq, if_pos rfl]
          · rw [zI_nj (by omega), if_neg hik, if_neg hij]; exact hc i hi
      · obtain ⟨q1, q2, q3⟩ := nx_perm (o' := fun i : Nat => zI u 265 i) ho (by omega) hj hjo (fun a b ha hab hb => hdesc (k + 1) hd a b (by omega) hab hb) hl hu
        exact k2 u _ (frm_trans hfr hfu) (fun i _ => rfl) q1 q2 q3
    | succ m ihm =>
      intro j hjm hj hl
      have hck := hc k (by omega)
      have hcj := hc j hj
      refine v_Model_turns_41 ⟨⟨by omega, by omega⟩, ⟨by omega, by omega⟩, ?_⟩
      rw [hck, hcj]
      refine ⟨fun hle => ?_, fun hlt => ?_⟩
      · have hjo : o k < o j := by
          refine Classical.byContradiction fun hcc => ?_
          have := ho.2 k j (by omega) hj (by omega)
          omega
        have hfr : frm (fun x => x = 265) s (zwI (zwI s 265 k (o j)) 265 j (o k)) := frm_I (frm_I frm_refl rfl) rfl
        have hz := M_tu_78 (S := S) (Q := Q) (n := n) (o := o) (k := k) (j := j) (by omega) hj hn n (k + 1) (n - 1) (zwI (zwI s 265 k (o j)) 265 j (o k)) (by omega) (by omega) (by omega) (fun i hi => ?_) fun u hfu hu => ?_
        · rw [show ((k + 1 : Nat) : Int) = (k : Int) + 1 by omega, show ((n - 1 : Nat) : Int) = (n : Int) - 1 by omega] at hz
          exact hz
        · unfold trW
          rw [if_neg (by omega)]
          by_cases hij : i = j
          · subst hij; rw [zI_eq, if_neg (by omega), if_pos rfl]
          · rw [zI_nj (by omega)]
            by_cases hik : i = k
            · subst hik; rw [zI_eq, if_pos rfl]
            · rw [zI_nj (by omega), if_neg hik, if_neg hij]; exact hc i hi
        · obtain ⟨q1, q2, q3⟩ := nx_perm (o' := fun i : Nat => zI u 265 i) ho (by omega) hj hjo (fun a b ha hab hb => hdesc (k + 1) hd a b (by omega) hab hb) hl hu
          exact k2 u _ (frm_trans hfr hfu) (fun i _ => rfl) q1 q2 q3
      · have hz := ihm (j - 1) (by omega) (by omega) fun i hi hin => by
          by_cases hij : i = j
          · subst hij; exact hlt
          · exact hl i (by omega) hin
        rw [show ((j - 1 : Nat) : Int) = (j : Int) + (-1) by omega] at hz
        exact hz
  have h4 : ∀ (m : Nat), m + 1 ≤ n ∨ m = 0 → (∀ i, m ≤ i → i + 1 < n → o (i + 1) < o i) → wp S 217 4 [(0, rf 252), (1, iv n), (2, iv ((m : Int) - 1))] [] s Q := by
    intro m
    induction m with
    | zero =>
      intro _ hd
      refine v_Model_turns_4 ⟨⟨by omega, by omega⟩, fun _ => ⟨fun hcc => by omega, fun _ => k1 fun p hp => pm_desc (k := 0) ho hp (hdesc 0 hd) fun i hi => absurd hi (Nat.not_lt_zero i)⟩, fun hcc => by omega⟩
    | succ m ihm =>
      intro hm hd
      have hck := hc m (by omega)
      have hck1 := hc (m + 1) (by omega)
      rw [show ((m + 1 : Nat) : Int) = (m : Int) + 1 by omega] at hck1
      rw [show ((m + 1 : Nat) : Int) - 1 = (m : Int) by omega]
      refine v_Model_turns_4 ?_
      rw [hck, hck1]
      refine ⟨⟨by omega, by omega⟩, fun hcc => by omega, fun _ => ⟨⟨by omega, by omega⟩, ⟨by omega, by omega⟩, fun hle => ⟨fun _ => ?_, fun hcc => by omega⟩, fun hlt => ?_⟩⟩
      · have hlt : o m < o (m + 1) := by
          refine Classical.byContradiction fun hcc => ?_
          have := ho.2 m (m + 1) (by omega) (by omega) (by omega)
          omega
        have hz := h41 m (by omega) hlt hd (n - 1 - (m + 1)) (n - 1) (by omega) (by omega) fun i hi hin => by omega
        rw [show ((n - 1 : Nat) : Int) = (n : Int) - 1 by omega] at hz
        exact hz
      · have hz := ihm (.inl (by omega)) fun i hi hin => by
          by_cases him : i = m
          · subst him; exact hlt
          · exact hd i (by omega) hin
        rw [show (m : Int) - 1 = (m : Int) + (-1) by omega] at hz
        exact hz
  refine v_Model_turns_0 ?_
  by_cases hn0 : n = 0
  · subst hn0
    refine v_Model_turns_4 ⟨⟨by omega, by omega⟩, fun _ => ⟨fun hcc => by omega, fun _ => k1 fun p _ => .inr fun i hi => absurd hi (Nat.not_lt_zero i)⟩, fun hcc => by omega⟩
  · have hz := h4 (n - 1) (.inl (by omega)) fun i hi hin => by omega
    rw [show ((n - 1 : Nat) : Int) - 1 = (n : Int) - 2 by omega] at hz
    exact hz
end TURN
