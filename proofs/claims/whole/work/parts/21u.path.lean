/-! ===== letters of paths ===== -/
def sgL (L : List Int) (i : Int) : Int := if 0 ≤ i ∧ i < L.length then L.getD i.toNat 0 else -1
theorem sgL_app1 {A B : List Int} {i : Int} (h0 : 0 ≤ i) (h1 : i < A.length) : sgL (A ++ B) i = sgL A i := by
  unfold sgL
  rw [if_pos ⟨h0, by rw [List.length_append]; omega⟩, if_pos ⟨h0, h1⟩, getD_app1 (by omega)]
theorem sgL_app2 {A B : List Int} {i : Int} (h1 : (A.length : Int) ≤ i) : sgL (A ++ B) i = sgL B (i - A.length) := by
  unfold sgL
  by_cases h : i - A.length < B.length
  · rw [if_pos ⟨by omega, by rw [List.length_append]; omega⟩, if_pos ⟨by omega, h⟩, getD_app2 (by omega), show i.toNat - A.length = (i - A.length).toNat by omega]
  · rw [if_neg (by rw [List.length_append]; omega), if_neg (by omega)]
theorem sgL_nil {i : Int} : sgL [] i = -1 := by unfold sgL; rw [if_neg]; intro h; have := h.2; simp at this; omega
theorem shr8_toInt (x : Int64) : (zshrL x 8).toInt = x.toInt / 256 := by
  show (zshrL x 8).toBitVec.toInt = _
  rw [shr_bv ⟨by omega, by omega⟩, BitVec.toInt_sshiftRight, Int.shiftRight_eq_div_pow]
  rfl
theorem pcode_shr {p : Int × Int} {r : List (Int × Int)} (hp : 97 ≤ p.1 ∧ p.1 ≤ 122 ∧ 0 ≤ p.2 ∧ p.2 ≤ 4) (hr : 0 ≤ (pcode r).toInt ∧ (pcode r).toInt < 2 ^ 48) : zshrL (pcode (p :: r)) 8 = pcode r ∧ zl2i (pcode (p :: r) &&& 255) = (p.1 - 96) * 8 + p.2 := by
  have hz := pcode_s hp hr
  constructor
  · refine Int64.toInt_inj.mp ?_
    rw [shr8_toInt, hz]
    omega
  · rw [z255, hz]
    omega
theorem pcode_0 {r : List (Int × Int)} (h : okP r) (hl : r.length ≤ 6) : pcode r = 0 ↔ r = [] := by
  constructor
  · intro he
    exact pcode_inj r [] h (fun x hx => by cases hx) hl (Nat.zero_le _) he
  · intro he; rw [he]; rfl
theorem pbs_el : ∀ L : List (Int × Int), okP L → ∀ x ∈ pbs L, 46 ≤ x ∧ x ≤ 122 := by
  intro L
  induction L with
  | nil => intro _ x hx; cases hx
  | cons p r ihr =>
    intro h x hx
    have h0 := h p (List.mem_cons_self ..)
    rcases List.mem_append.mp (show x ∈ zlv p ++ (if r = [] then [] else 46 :: pbs r) from hx) with hx | hx
    · unfold zlv at hx
      split at hx
      · have := List.mem_singleton.mp hx; omega
      · rcases List.mem_cons.mp hx with q | hx
        · omega
        · rcases List.mem_cons.mp hx with q | hx
          · omega
          · rcases List.mem_cons.mp hx with q | hx
            · omega
            · have := List.mem_singleton.mp hx; omega
    · split at hx
      · cases hx
      · rcases List.mem_cons.mp hx with q | hx
        · omega
        · exact ihr (fun y hy => h y (List.mem_cons_of_mem _ hy)) x hx
theorem sgL_b {L : List (Int × Int)} {i : Int} (hp : okP L) : sgL (pbs L) i = -1 ∨ (46 ≤ sgL (pbs L) i ∧ sgL (pbs L) i ≤ 122) := by
  unfold sgL
  split
  · rename_i h
    exact .inr (pbs_el L hp _ (getD_mem (by omega)))
  · exact .inl rfl
theorem sgL_rng {L : List (Int × Int)} {i : Int} (hp : okP L) (_ : L.length ≤ 6) : rng (sgL (pbs L) i) := by
  have := sgL_b (i := i) hp
  exact ⟨by omega, by omega⟩
section OPS35
variable {S : Option (Nat × (Nat → Int32))} {Q : Option Value ⊕ Nat → zSt → Prop} {s : zSt} {D : Int → Int} {H : List (Int → Int)} {T : List Int}
theorem X_sign {p : Int × Int} {r : List (Int × Int)} {i b : Int} (hp : 97 ≤ p.1 ∧ p.1 ≤ 122 ∧ 0 ≤ p.2 ∧ p.2 ≤ 4) (hb : b = (p.1 - 96) * 8 + p.2) (h0 : 0 ≤ i) (h1 : i < (zlv p).length + (if r = [] then 0 else 1)) (k1 : Q (rI (sgL (pbs (p :: r)) i)) s) : wp S 69 0 [(0, iv b), (1, iv i)] [] s Q := by
  have hlen : (zlv p).length = if p.2 = 0 then 1 else 4 := by unfold zlv; split <;> rfl
  have hsep : (zlv p).length ≤ i → sgL (pbs (p :: r)) i = 46 := fun hge => by
    have hr : ¬ r = [] := fun hq => by rw [if_pos hq] at h1; omega
    rw [if_neg hr] at h1
    show sgL (zlv p ++ (if r = [] then [] else 46 :: pbs r)) i = 46
    rw [sgL_app2 (by omega), if_neg hr, show i - ((zlv p).length : Int) = 0 by omega]
    unfold sgL
    rw [if_pos ⟨by omega, by rw [List.length_cons]; omega⟩]
    rfl
  have hin : i < (zlv p).length → sgL (pbs (p :: r)) i = sgL (zlv p) i := fun hlt => sgL_app1 h0 hlt
  have hle : i ≤ 4 := by
    rw [hlen] at h1
    split at h1 <;> split at h1 <;> omega
  have e8 : b % 8 = p.2 ∧ b / 8 = p.1 - 96 := by omega
  refine v_RL_signOfLevel_0 ⟨⟨by omega, by omega⟩, fun hi => ⟨⟨by omega, by omega⟩, by omega, ⟨by omega, by omega⟩, ?_⟩, fun hi => ⟨⟨by omega, by omega⟩, by omega, ?_⟩⟩
  · rw [e8.1]
    refine ⟨fun h2 => ?_, fun h2 => ?_⟩
    · rw [if_neg h2] at hlen
      have hz : zlv p = [p.1, 91, 47 + p.2, 93] := by unfold zlv; rw [if_neg h2]
      rw [hz] at hin
      refine ⟨fun q => ?_, fun q => ?_, fun q => ?_, fun q => ?_⟩
      · subst q; rw [hin (by show (1 : Int) < 4; omega)] at k1; exact k1
      · subst q; rw [hin (by show (2 : Int) < 4; omega)] at k1; exact k1
      · subst q; rw [hin (by show (3 : Int) < 4; omega)] at k1; exact k1
      · rw [hsep (by omega)] at k1; exact k1
    · rw [if_pos h2] at hlen
      rw [hsep (by omega)] at k1
      exact k1
  · subst hi
    have hp0 : 0 < (zlv p).length := (zlv_len p).1
    rw [hin (by omega)] at k1
    have hz : sgL (zlv p) 0 = p.1 := by
      unfold sgL
      rw [if_pos ⟨by omega, by omega⟩]
      unfold zlv
      split <;> rfl
    rw [hz] at k1
    rw [e8.2, show 96 + (p.1 - 96) = p.1 by omega]
    exact k1
theorem X_signs_14 : ∀ (L : List (Int × Int)) (i : Int) (d : Nat), okP L → L.length + d ≤ 6 → 0 ≤ i → i ≤ 2147483647 → Q (rI (sgL (pbs L) i)) s → wp S 68 14 [(3, .long (pcode L)), (5, iv i), (6, iv d)] [] s Q := by
  intro L
  induction L with
  | nil =>
    intro i d hp hl h0 h1 k1
    have hz : sgL (pbs []) i = -1 := sgL_nil
    rw [hz] at k1
    exact v_RL_signOfPath_14 ⟨⟨by omega, by omega⟩, fun _ => k1, fun _ => ⟨fun _ => k1, fun hc => absurd (zcmp_0.mpr rfl) hc⟩⟩
  | cons p r ihr =>
    intro i d hp hl h0 h1 k1
    rw [List.length_cons] at hl
    have hpp := hp p (List.mem_cons_self ..)
    have hpr : okP r := fun q hq => hp q (List.mem_cons_of_mem _ hq)
    have hrb := pcode_b48 hpr (by omega)
    obtain ⟨e1, e2⟩ := pcode_shr hpp hrb
    have hne : pcode (p :: r) ≠ 0 := fun hq => absurd ((pcode_0 hp (by rw [List.length_cons]; omega)).mp hq) (by simp)
    have hlen : (zlv p).length = if p.2 = 0 then 1 else 4 := by unfold zlv; split <;> rfl
    have h8 : ((p.1 - 96) * 8 + p.2) % 8 = p.2 := by omega
    have hrec : ∀ n : Int, n = (zlv p).length + (if r = [] then 0 else 1) → n ≤ i → wp S 68 14 [(3, .long (pcode r)), (5, iv (i - n)), (6, iv (d + 1))] [] s Q := fun n hn hni => by
      have hz := ihr (i - n) (d + 1) hpr (by omega) (by omega) (by omega) (by
        have hq : sgL (pbs (p :: r)) i = sgL (pbs r) (i - n) := by
          show sgL (zlv p ++ (if r = [] then [] else 46 :: pbs r)) i = _
          by_cases hr : r = []
          · subst hr
            rw [if_pos rfl] at hn ⊢
            rw [List.append_nil]
            have h2 : sgL (pbs []) (i - n) = -1 := sgL_nil
            rw [h2]
            unfold sgL
            rw [if_neg (by omega)]
          · rw [if_neg hr] at hn ⊢
            rw [sgL_app2 (by omega)]
            have h3 := sgL_app2 (A := [46]) (B := pbs r) (i := i - (zlv p).length) (by show (1 : Int) ≤ _; omega)
            rw [show i - ((zlv p).length : Int) - (([46] : List Int).length : Int) = i - n by show i - ((zlv p).length : Int) - 1 = _; omega] at h3
            exact h3
        rw [← hq]
        exact k1)
      exact hz
    refine v_RL_signOfPath_14 ⟨⟨by omega, by omega⟩, fun hc => by omega, fun _ => ⟨fun hc => absurd (zcmp_0.mp hc) hne, fun _ => ?_⟩⟩
    rw [e1, e2, h8]
    have hrz : zcmp (pcode r) 0 = 0 ↔ r = [] := zcmp_0.trans (pcode_0 hpr (by omega))
    have hrngs : ∀ n : Int, (n = 4 ∨ n = 5 ∨ n = 1 ∨ n = 2) → rng n := fun n hn => ⟨by omega, by omega⟩
    refine ⟨by omega, ⟨by omega, by omega⟩, fun h2 => ⟨fun h3 => ⟨⟨by omega, by omega⟩, hrngs _ (by omega), ?_⟩, fun h3 => ⟨⟨by omega, by omega⟩, hrngs _ (by omega), ?_⟩⟩, fun h2 => ⟨fun h3 => ⟨⟨by omega, by omega⟩, hrngs _ (by omega), ?_⟩, fun h3 => ⟨⟨by omega, by omega⟩, hrngs _ (by omega), ?_⟩⟩⟩
    · have hr : ¬ r = [] := fun q => h3 (hrz.mpr q)
      have hn : (4 + 1 : Int) = (zlv p).length + (if r = [] then 0 else 1) := by rw [hlen, if_neg h2, if_neg hr]; rfl
      refine ⟨fun hle => hrec _ hn hle, fun hlt => X_sign (r := r) hpp rfl h0 (by rw [← hn]; exact hlt) (zkI_I ?_ k1)⟩
      exact sgL_rng hp (by rw [List.length_cons]; omega)
    · have hr : r = [] := hrz.mp h3
      have hn : (4 + 0 : Int) = (zlv p).length + (if r = [] then 0 else 1) := by rw [hlen, if_neg h2, if_pos hr]; rfl
      refine ⟨fun hle => hrec _ hn hle, fun hlt => X_sign (r := r) hpp rfl h0 (by rw [← hn]; exact hlt) (zkI_I ?_ k1)⟩
      exact sgL_rng hp (by rw [List.length_cons]; omega)
    · have hr : ¬ r = [] := fun q => h3 (hrz.mpr q)
      have hn : (1 + 1 : Int) = (zlv p).length + (if r = [] then 0 else 1) := by rw [hlen, if_pos h2, if_neg hr]; rfl
      refine ⟨fun hle => hrec _ hn hle, fun hlt => X_sign (r := r) hpp rfl h0 (by rw [← hn]; exact hlt) (zkI_I ?_ k1)⟩
      exact sgL_rng hp (by rw [List.length_cons]; omega)
    · have hr : r = [] := hrz.mp h3
      have hn : (1 + 0 : Int) = (zlv p).length + (if r = [] then 0 else 1) := by rw [hlen, if_pos h2, if_pos hr]; rfl
      refine ⟨fun hle => hrec _ hn hle, fun hlt => X_sign (r := r) hpp rfl h0 (by rw [← hn]; exact hlt) (zkI_I ?_ k1)⟩
      exact sgL_rng hp (by rw [List.length_cons]; omega)
theorem X_signOfPath {L : List (Int × Int)} {i : Int} (hp : okP L) (hl : L.length ≤ 6) (hi : rng i) (k1 : Q (rI (sgL (pbs L) i)) s) : wp S 68 0 [(0, .long (pcode L)), (2, iv i)] [] s Q := by
  refine v_RL_signOfPath_0 ⟨hi, fun h0 => X_signs_14 L i 0 hp (by omega) h0 hi.2 k1, fun h0 => ?_⟩
  have hz : sgL (pbs L) i = -1 := by unfold sgL; rw [if_neg (by omega)]
  rw [hz] at k1
  exact k1
end OPS35
