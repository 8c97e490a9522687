/-! ===== the law's loop ===== -/
def lwQ (o : Option Value ⊕ Nat) (t : zSt) : Prop := o = rI 1 ∧ zc t ≤ 601024 ∧ zn t ≤ 7293034
theorem lw_loop {S : Option (Nat × (Nat → Int32))} {L : Nat} {xs : Nat → Int32} (hS : S = some (L, xs)) (hL : L ≤ 3584) (n : Nat) : ∀ (m : Nat) (s : zSt), L < 7 * (m + n) → 7 * m ≤ L → lwI m s → wp S 276 23 [(0, rf 0), (1, rf 2), (2, rf 252), (3, rf 275), (4, iv (7 * (m : Int)))] [] s lwQ := by
  induction n with
  | zero => intro m s h1 h2; omega
  | succ n ihn =>
    intro m s hn hm7 hI
    refine v_Law_law_23 hS ⟨⟨by omega, by omega⟩, ⟨by omega, by omega⟩, fun hend => ?_, fun hgo => ⟨⟨by omega, by omega, ⟨by omega, by omega⟩⟩, fun k hk _ => ?_, fun _ => ?_⟩⟩
    · obtain ⟨D, H, T, hO, hc, hm, h1, h2⟩ := hI
      exact ⟨rfl, by omega, by omega⟩
    · obtain ⟨D, H, T, hO, hc, hm, h1, h2⟩ := hI
      have hLL : 7 * (m : Int) + 7 ≤ L := by omega
      have hk' : ∀ u, lwI (m + 1) u → wp S 276 23 [(0, rf 0), (1, rf 2), (2, rf 252), (3, rf 275), (4, iv (7 * (m : Int) + 7))] [] u lwQ := fun u hu => by
        have hz := ihn (m + 1) u (by omega) (by omega) hu
        rw [show 7 * ((m + 1 : Nat) : Int) = 7 * (m : Int) + 7 by omega] at hz
        exact hz
      match k, hk with
      | 0, _ => exact lw_newRecord hS hO hc hm h1 h2 rfl hLL hL hk'
      | 1, _ => exact lw_addField hS hO hc hm h1 h2 rfl hLL hL hk'
      | 2, _ => exact lw_records hS hO hc hm h1 h2 rfl hLL hL hk'
      | 3, _ => exact lw_recordInfo hS hO hc hm h1 h2 rfl hLL hL hk'
      | 4, _ => exact lw_fieldInfo hS hO hc hm h1 h2 rfl hLL hL hk'
      | 5, _ => exact lw_leafInfo hS hO hc hm h1 h2 rfl hLL hL hk'
      | 6, _ => exact lw_pathByte hS hO hc hm h1 h2 rfl hLL hL hk'
      | 7, _ => exact lw_findLeaf hS hO hc hm h1 h2 rfl hLL hL hk'
      | 8, _ => exact lw_bestSize hS hO hc hm h1 h2 rfl hLL hL hk'
      | 9, _ => exact lw_bestOrder hS hO hc hm h1 h2 rfl hLL hL hk'
      | 10, _ => exact lw_append hS hO hc hm h1 h2 rfl hLL hL hk'
      | 11, _ => exact lw_clearText hS hO hc hm h1 h2 rfl hLL hL hk'
      | 12, _ => exact lw_define hS hO hc hm h1 h2 rfl hLL hL hk'
      | 13, _ => exact lw_newTable hS hO hc hm h1 h2 rfl hLL hL hk'
      | 14, _ => exact lw_removeTable hS hO hc hm h1 h2 rfl hLL hL hk'
      | 15, _ => exact lw_tables hS hO hc hm h1 h2 rfl hLL hL hk'
      | 16, _ => exact lw_tableInfo hS hO hc hm h1 h2 rfl hLL hL hk'
      | 17, _ => exact lw_address hS hO hc hm h1 h2 rfl hLL hL hk'
      | 18, _ => exact lw_get hS hO hc hm h1 h2 rfl hLL hL hk'
      | 19, _ => exact lw_set hS hO hc hm h1 h2 rfl hLL hL hk'
      | 20, _ => exact lw_memory hS hO hc hm h1 h2 rfl hLL hL hk'
      | 21, _ => exact lw_poke hS hO hc hm h1 h2 rfl hLL hL hk'
      | 22, _ => exact lw_freeBytes hS hO hc hm h1 h2 rfl hLL hL hk'
      | 23, _ => exact lw_convert hS hO hc hm h1 h2 rfl hLL hL hk'
      | 24, _ => exact lw_migrate hS hO hc hm h1 h2 rfl hLL hL hk'
      | 25, _ => exact lw_compact hS hO hc hm h1 h2 rfl hLL hL hk'
      | 26, _ => exact lw_sort hS hO hc hm h1 h2 rfl hLL hL hk'
      | 27, _ => exact lw_fill hS hO hc hm h1 h2 rfl hLL hL hk'
      | 28, _ => exact lw_copyRow hS hO hc hm h1 h2 rfl hLL hL hk'
      | 29, _ => exact lw_count hS hO hc hm h1 h2 rfl hLL hL hk'
      | 30, _ => exact lw_findRow hS hO hc hm h1 h2 rfl hLL hL hk'
      | 31, _ => exact lw_sum hS hO hc hm h1 h2 rfl hLL hL hk'
      | 32, _ => exact lw_lines hS hO hc hm h1 h2 rfl hLL hL hk'
      | 33, _ => exact lw_runs hS hO hc hm h1 h2 rfl hLL hL hk'
      | 34, _ => exact lw_bestLayout hS hO hc hm h1 h2 rfl hLL hL hk'
      | 35, _ => exact lw_undo hS hO hc hm h1 h2 rfl hLL hL hk'
      | 36, _ => exact lw_digest hS hO hc hm h1 h2 rfl hLL hL hk'
      | k + 37, h => exact absurd h (by omega)
    · have hz := ihn (m + 1) s (by omega) (by omega) (by
        obtain ⟨D, H, T, hO, hc, hm, h1, h2⟩ := hI
        exact ⟨D, H, T, hO, hc, hm, by omega, by omega⟩)
      rw [show 7 * ((m + 1 : Nat) : Int) = 7 * (m : Int) + 7 by omega] at hz
      exact hz
