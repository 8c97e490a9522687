/-! ===== which bytes are taken; room from a byte on ===== -/
def inT (D : Int → Int) (t b : Int) : Prop := tRc D t ≠ -1 ∧ tBs D t ≤ b ∧ b < tBs D t + tBy D t
def preT (D : Int → Int) (b : Int) : Nat → Prop
  | 0 => False
  | t + 1 => preT D b t ∨ inT D t b
/-- end of the free bytes from b on, as the first tables ask -/
def endC (D : Int → Int) (b : Int) : Nat → Int
  | 0 => 1024
  | t + 1 => if tRc D t ≠ -1 ∧ b < tBs D t + tBy D t then min (endC D b t) (max b (tBs D t)) else endC D b t
theorem preT_iff {D : Int → Int} {b : Int} : ∀ n : Nat, preT D b n ↔ ∃ t : Nat, t < n ∧ inT D t b := by
  intro n
  induction n with
  | zero => exact ⟨fun h => False.elim h, fun ⟨t, h, _⟩ => absurd h (Nat.not_lt_zero t)⟩
  | succ n ihn =>
    constructor
    · rintro (h | h)
      · obtain ⟨t, h1, h2⟩ := ihn.mp h
        exact ⟨t, by omega, h2⟩
      · exact ⟨n, by omega, h⟩
    · rintro ⟨t, h1, h2⟩
      by_cases ht : t = n
      · subst ht; exact .inr h2
      · exact .inl (ihn.mpr ⟨t, by omega, h2⟩)
theorem tBy_pos {D : Int → Int} {t : Int} (hA : okA D) (hv : isLv D t) : 1 ≤ tBy D t := by
  obtain ⟨q1, q2, q3, q4, q5, q6, q7, q8⟩ := isLv_ok hA hv
  have hG : okG (tG D t) := okG_shp hA.1 q1.1 q1.2
  have h1 := (shp_OK hA.1 q1.1 q1.2).2.1 q2
  have hdi := dist_in (row := 0) (k := 0) hG q4 q3 (by show 0 < (gV (shp D (tRc D t))).length; omega) (by omega) (by omega)
  have hz := zp8_b (wd_8 (gV (tG D t)) 0)
  omega
theorem endC_b {D : Int → Int} {b : Int} (hb : b ≤ 1024) : ∀ n : Nat, b ≤ endC D b n ∧ endC D b n ≤ 1024 := by
  intro n
  induction n with
  | zero => exact ⟨hb, Int.le_refl _⟩
  | succ n ihn => unfold endC; split <;> omega
theorem endC_le {D : Int → Int} {b : Int} : ∀ n t : Nat, t < n → tRc D t ≠ -1 → b < tBs D t + tBy D t → endC D b n ≤ max b (tBs D t) := by
  intro n
  induction n with
  | zero => intro t h; omega
  | succ n ihn =>
    intro t ht h1 h2
    unfold endC
    by_cases hn : t = n
    · subst hn; rw [if_pos ⟨h1, h2⟩]; omega
    · have hz := ihn t (by omega) h1 h2
      split <;> omega
theorem endC_at {D : Int → Int} {b : Int} : ∀ n : Nat, endC D b n = 1024 ∨ ∃ t : Nat, t < n ∧ tRc D t ≠ -1 ∧ b < tBs D t + tBy D t ∧ endC D b n = max b (tBs D t) := by
  intro n
  induction n with
  | zero => exact .inl rfl
  | succ n ihn =>
    have hz : endC D b n = 1024 ∨ ∃ t : Nat, t < n + 1 ∧ tRc D t ≠ -1 ∧ b < tBs D t + tBy D t ∧ endC D b n = max b (tBs D t) := by
      rcases ihn with h | ⟨t, h1, h2⟩
      · exact .inl h
      · exact .inr ⟨t, by omega, h2⟩
    unfold endC
    split
    · rename_i hc
      by_cases hm : endC D b n ≤ max b (tBs D n)
      · rw [Int.min_eq_left hm]; exact hz
      · rw [Int.min_eq_right (by omega)]; exact .inr ⟨n, by omega, hc.1, hc.2, rfl⟩
    · exact hz
def freeD (D : Int → Int) (b : Int) : Int := endC D b 3 - b
theorem free_no {D : Int → Int} {b x : Int} (h0 : b ≤ x) (h1 : x < endC D b 3) : ¬ preT D x 3 := fun hp => by
  obtain ⟨t, ht, h2, h3, h4⟩ := (preT_iff 3).mp hp
  have hz := endC_le (b := b) 3 t ht h2 (by omega)
  omega
theorem free_end {D : Int → Int} {b : Int} (hA : okA D) (h1 : endC D b 3 < 1024) : preT D (endC D b 3) 3 := by
  rcases endC_at (D := D) (b := b) 3 with h | ⟨t, ht, h2, h3, h4⟩
  · omega
  · have hz := tBy_pos hA (t := t) ⟨by omega, by omega, h2⟩
    exact (preT_iff 3).mpr ⟨t, ht, h2, by omega, by omega⟩
def roomD (D : Int → Int) (need : Int) : Nat → Int → Int
  | 0, _ => -1
  | n + 1, b => if freeD D b < need then roomD D need n (b + 16) else b
section OPS11
variable {S : Option (Nat × (Nat → Int32))} {Q : Option Value ⊕ Nat → zSt → Prop} {s : zSt} {D : Int → Int} {H : List (Int → Int)} {T : List Int}
theorem M_taken_4 {b : Int} (hA : okA D) (hm : mD s D) (hb : rng b) (k1 : Q (rI (bi (preT D b 3))) s) (n : Nat) : ∀ t : Nat, t + n = 3 → wp S 235 4 [(0, rf 252), (1, iv b), (2, iv (bi (preT D b t))), (3, iv t)] [] s Q := by
  induction n with
  | zero =>
    intro t ht
    have h3 : t = 3 := by omega
    subst h3
    exact v_Model_isTaken_4 ⟨⟨by decide, by decide⟩, fun _ => ⟨bi_01 _, k1⟩, fun hc => absurd hc (by decide)⟩
  | succ n ihn =>
    intro t ht
    have hgo := ihn (t + 1) (by omega)
    have hy : preT D b (t + 1) → wp S 235 4 [(0, rf 252), (1, iv b), (2, iv 1), (3, iv ((t : Int) + 1))] [] s Q := fun hp => by rw [bi_T hp] at hgo; exact hgo
    have hn : ¬ preT D b (t + 1) → wp S 235 4 [(0, rf 252), (1, iv b), (2, iv 0), (3, iv ((t : Int) + 1))] [] s Q := fun hp => by rw [bi_F hp] at hgo; exact hgo
    have e0 : zI s 253 (157 + 6 * (t : Int)) = tRc D t := hm _ (by omega) (by omega)
    have e4 : zI s 253 (157 + 6 * (t : Int) + 4) = tBs D t := hm _ (by omega) (by omega)
    have e5 : zI s 253 (157 + 6 * (t : Int) + 5) = tBy D t := hm _ (by omega) (by omega)
    refine v_Model_isTaken_4 ⟨⟨by omega, by omega⟩, fun hc => by omega, fun _ => ⟨bi_rng _, fun hne => hy (.inl (Classical.byContradiction fun hq => hne (bi_0.mpr hq))), fun he => ?_⟩⟩
    have hno := bi_0.mp he
    rw [e0, e4, e5]
    refine ⟨fun hl => hn fun hp => hp.elim hno fun hi => hl ⟨by omega, by omega, hi.1⟩, fun hl => ?_⟩
    have hT := isLv_ok hA (t := t) ⟨by omega, by omega, hl.2.2⟩
    have h6 := hT.2.2.2.2.2.1
    have h8 := hT.2.2.2.2.2.2.2
    have hby := tBy_pos hA (t := t) ⟨by omega, by omega, hl.2.2⟩
    exact ⟨⟨by omega, by omega⟩, hb, fun hlt => hn fun hp => hp.elim hno fun hi => by have := hi.2.1; omega, fun hge => ⟨⟨by omega, by omega⟩, ⟨by omega, by omega⟩, fun h2 => hn fun hp => hp.elim hno fun hi => by have := hi.2.2; omega, fun h2 => hy (.inr ⟨hl.2.2, hge, h2⟩)⟩⟩
theorem M_taken {b : Int} (hA : okA D) (hm : mD s D) (hb : rng b) (k1 : Q (rI (bi (preT D b 3))) s) : wp S 235 0 [(0, rf 252), (1, iv b)] [] s Q := by
  have hz := M_taken_4 (S := S) (Q := Q) hA hm hb k1 3 0 (by omega)
  rw [bi_F (fun hp : preT D b 0 => hp)] at hz
  exact v_Model_isTaken_0 hz
theorem M_freeFrom {b : Int} (hA : okA D) (hm : mD s D) (hb : 0 ≤ b ∧ b ≤ 1024) (k1 : Q (rI (freeD D b)) s) : wp S 234 0 [(0, rf 252), (1, iv b)] [] s Q := by
  have hE := endC_b (D := D) hb.2 3
  have hloop : ∀ (n : Nat) (x : Int), b ≤ x → x + n = endC D b 3 → wp S 234 2 [(0, rf 252), (1, iv b), (2, iv x)] [] s Q := by
    intro n
    induction n with
    | zero =>
      intro x h0 h1
      have hx : x = endC D b 3 := by omega
      subst hx
      refine v_Model_freeFrom_2 ⟨⟨by omega, by omega⟩, fun _ => k1, fun hc => M_taken hA hm ⟨by omega, by omega⟩ (zkI_I (bi_rng _) ⟨fun _ => k1, fun he => absurd (free_end hA hc) (bi_0.mp he)⟩)⟩
    | succ n ihn =>
      intro x h0 h1
      exact v_Model_freeFrom_2 ⟨⟨by omega, by omega⟩, fun hc => by omega, fun hc => M_taken hA hm ⟨by omega, by omega⟩ (zkI_I (bi_rng _) ⟨fun he => absurd (bi_0.mpr (free_no h0 (by omega))) he, fun _ => ihn (x + 1) (by omega) (by omega)⟩)⟩
  exact v_Model_freeFrom_0 (hloop (endC D b 3 - b).toNat b (by omega) (by omega))
theorem X_freeFrom_6 {b : Int} (hA : okA D) (hs : cSt s 3 D) (hb : 0 ≤ b ∧ b ≤ 1024) (k1 : Q (rI (freeD D b)) s) (n : Nat) : ∀ t : Nat, t + n = 3 → wp S 14 6 [(0, rf 2), (1, iv b), (2, iv (endC D b t)), (3, iv t)] [] s Q := by
  induction n with
  | zero =>
    intro t ht
    have h3 : t = 3 := by omega
    subst h3
    exact v_RL_freeFrom_6 ⟨⟨by decide, by decide⟩, fun _ => k1, fun hc => absurd hc (by decide)⟩
  | succ n ihn =>
    intro t ht
    have hE := endC_b (D := D) hb.2 t
    have hgo := ihn (t + 1) (by omega)
    have hy : tRc D t ≠ -1 ∧ b < tBs D t + tBy D t → wp S 14 6 [(0, rf 2), (1, iv b), (2, iv (min (endC D b t) (max b (tBs D t)))), (3, iv ((t : Int) + 1))] [] s Q := fun hp => by
      rw [show endC D b (t + 1) = min (endC D b t) (max b (tBs D t)) from if_pos hp] at hgo
      exact hgo
    have hn : ¬ (tRc D t ≠ -1 ∧ b < tBs D t + tBy D t) → wp S 14 6 [(0, rf 2), (1, iv b), (2, iv (endC D b t)), (3, iv ((t : Int) + 1))] [] s Q := fun hp => by
      rw [show endC D b (t + 1) = endC D b t from if_neg hp] at hgo
      exact hgo
    obtain ⟨l1, l2⟩ := cTb_live hs (t := t) (by omega) (by omega)
    refine v_RL_freeFrom_6 ⟨⟨by omega, by omega⟩, fun hc => by omega, fun _ => ⟨⟨by omega, by omega⟩, fun h0 => hn fun hp => l1.mpr hp.1 h0, fun h0 => ?_⟩⟩
    have hl := l1.mp h0
    have e5 := l2 hl 4 (by omega) (by omega)
    have e6 := l2 hl 5 (by omega) (by omega)
    rw [show (4 : Int) + 1 = 5 by omega] at e5
    rw [show (5 : Int) + 1 = 6 by omega] at e6
    rw [show zI s (31 + (t : Int)) 5 = tBs D t from e5, show zI s (31 + (t : Int)) 6 = tBy D t from e6]
    have hT := isLv_ok hA (t := t) ⟨by omega, by omega, hl⟩
    have q6 := hT.2.2.2.2.2.1
    have q8 := hT.2.2.2.2.2.2.2
    have hby := tBy_pos hA (t := t) ⟨by omega, by omega, hl⟩
    exact ⟨⟨by omega, by omega⟩, ⟨by omega, by omega⟩, fun hc => hn fun hp => by have := hp.2; omega, fun hc => ⟨⟨by omega, by omega⟩, ⟨by omega, by omega⟩, hy ⟨hl, hc⟩⟩⟩
theorem X_freeFrom {b : Int} (hA : okA D) (hs : cSt s 3 D) (hb : 0 ≤ b ∧ b ≤ 1024) (k1 : Q (rI (freeD D b)) s) : wp S 14 0 [(0, rf 2), (1, iv b)] [] s Q :=
  v_RL_freeFrom_0 (X_freeFrom_6 hA hs hb k1 3 0 (by omega))
theorem freeD_b {b : Int} (hb : b ≤ 1024) : 0 ≤ freeD D b ∧ freeD D b ≤ 1024 - b := by
  have hE := endC_b (D := D) hb 3
  unfold freeD
  omega
theorem X_findRoom {need : Int} (hA : okA D) (hs : cSt s 3 D) (hn : rng need) (k1 : Q (rI (roomD D need 64 0)) s) : wp S 108 0 [(0, rf 2), (1, iv need)] [] s Q := by
  have hloop : ∀ (n : Nat) (x : Int), 0 ≤ x → x + 16 * n = 1024 → Q (rI (roomD D need n x)) s → wp S 108 2 [(0, rf 2), (1, iv need), (2, iv x)] [] s Q := by
    intro n
    induction n with
    | zero => intro x h0 h1 k1; exact v_RL_findRoom_2 ⟨⟨by omega, by omega⟩, fun _ => k1, fun hc => by omega⟩
    | succ n ihn =>
      intro x h0 h1 k1
      have hfb := freeD_b (D := D) (b := x) (by omega)
      unfold roomD at k1
      refine v_RL_findRoom_2 ⟨⟨by omega, by omega⟩, fun hc => by omega, fun _ => X_freeFrom hA hs ⟨h0, by omega⟩ (zkI_I ⟨by omega, by omega⟩ ⟨hn, fun hlt => ?_, fun hge => ?_⟩)⟩
      · rw [if_pos hlt] at k1; exact ihn (x + 16) (by omega) (by omega) k1
      · rw [if_neg (by omega)] at k1; exact k1
  exact v_RL_findRoom_0 (hloop 64 0 (by omega) (by omega) k1)
theorem M_room {need : Int} (hA : okA D) (hm : mD s D) (hn : rng need) (k1 : Q (rI (roomD D need 64 0)) s) : wp S 233 0 [(0, rf 252), (1, iv need)] [] s Q := by
  have hloop : ∀ (n : Nat) (x : Int), 0 ≤ x → x + 16 * n = 1024 → Q (rI (roomD D need n x)) s → wp S 233 2 [(0, rf 252), (1, iv need), (2, iv x)] [] s Q := by
    intro n
    induction n with
    | zero => intro x h0 h1 k1; exact v_Model_room_2 ⟨⟨by omega, by omega⟩, fun _ => k1, fun hc => by omega⟩
    | succ n ihn =>
      intro x h0 h1 k1
      have hfb := freeD_b (D := D) (b := x) (by omega)
      unfold roomD at k1
      refine v_Model_room_2 ⟨⟨by omega, by omega⟩, fun hc => by omega, fun _ => M_freeFrom hA hm ⟨h0, by omega⟩ (zkI_I ⟨by omega, by omega⟩ ⟨hn, fun hlt => ?_, fun hge => ?_⟩)⟩
      · rw [if_pos hlt] at k1; exact ihn (x + 16) (by omega) (by omega) k1
      · rw [if_neg (by omega)] at k1; exact k1
  exact v_Model_room_0 (hloop 64 0 (by omega) (by omega) k1)
end OPS11
