/-! ===== the order of rows ===== -/
abbrev befD (W : Nat → Int) (d : Int) (x r : Nat) : Prop := (W x = W r ∧ x < r) ∨ (W x < W r ∧ d = 0) ∨ (W r < W x ∧ d = 1)
/-- an order of the first rows: all of them, each behind those that are before it -/
def ordD (W : Nat → Int) (d : Int) (m : Nat) (o : Nat → Nat) : Prop := (∀ q, q < m → o q < m) ∧ (∀ a b, a < b → b < m → befD W d (o a) (o b)) ∧ ∀ r, r < m → ∃ q, q < m ∧ o q = r
def insO (o : Nat → Nat) (p i : Nat) : Nat → Nat := fun q => if q < p then o q else if q = p then i else o (q - 1)
theorem bef_tr {W : Nat → Int} {d : Int} {x y z : Nat} (hd : d = 0 ∨ d = 1) (h : befD W d x y) (k : befD W d y z) : befD W d x z := by
  unfold befD at *
  omega
theorem bef_irr {W : Nat → Int} {d : Int} {x y : Nat} (h : befD W d x y) : ¬ befD W d y x := by
  unfold befD at *
  omega
theorem bef_tot {W : Nat → Int} {d : Int} {x y : Nat} (hd : d = 0 ∨ d = 1) (h : x ≠ y) (k : ¬ befD W d x y) : befD W d y x := by
  unfold befD at *
  omega
theorem ord_ins {W : Nat → Int} {d : Int} {m p : Nat} {o : Nat → Nat} (hd : d = 0 ∨ d = 1) (h : ordD W d m o) (hp : p ≤ m) (h1 : 0 < p → befD W d (o (p - 1)) m) (h2 : ∀ q, p ≤ q → q < m → befD W d m (o q)) : ordD W d (m + 1) (insO o p m) := by
  obtain ⟨o1, o2, o3⟩ := h
  have hlow : ∀ a, a < p → befD W d (o a) m := fun a ha => by
    by_cases hap : a = p - 1
    · rw [hap]; exact h1 (by omega)
    · exact bef_tr hd (o2 a (p - 1) (by omega) (by omega)) (h1 (by omega))
  refine ⟨fun q hq => ?_, fun a b hab hb => ?_, fun r hr => ?_⟩
  · unfold insO
    split
    · have := o1 q (by omega); omega
    · split
      · omega
      · have := o1 (q - 1) (by omega); omega
  · unfold insO
    by_cases hb1 : b < p
    · rw [if_pos hb1, if_pos (by omega)]; exact o2 a b hab (by omega)
    · rw [if_neg hb1]
      by_cases hb2 : b = p
      · rw [if_pos hb2, if_pos (by omega)]; exact hlow a (by omega)
      · rw [if_neg hb2]
        by_cases ha1 : a < p
        · rw [if_pos ha1]; exact o2 a (b - 1) (by omega) (by omega)
        · rw [if_neg ha1]
          by_cases ha2 : a = p
          · rw [if_pos ha2]; exact h2 (b - 1) (by omega) (by omega)
          · rw [if_neg ha2]; exact o2 (a - 1) (b - 1) (by omega) (by omega)
  · by_cases hrm : r = m
    · refine ⟨p, by omega, ?_⟩
      unfold insO
      rw [if_neg (by omega), if_pos rfl, hrm]
    · obtain ⟨q, q1, q2⟩ := o3 r (by omega)
      by_cases hqp : q < p
      · exact ⟨q, by omega, by unfold insO; rw [if_pos hqp, q2]⟩
      · exact ⟨q + 1, by omega, by unfold insO; rw [if_neg (by omega), if_neg (by omega), Nat.add_sub_cancel, q2]⟩
/-- the rank of a row -/
def rkD (W : Nat → Int) (d : Int) (r i : Nat) : Nat := (List.range i).countP fun x => decide (befD W d x r)
theorem rkD_s {W : Nat → Int} {d : Int} {r i : Nat} : rkD W d r (i + 1) = rkD W d r i + (if befD W d i r then 1 else 0) := by
  unfold rkD
  rw [List.range_succ, List.countP_append]
  congr 1
  by_cases h : befD W d i r
  · rw [if_pos h, List.countP_cons_of_pos (by exact decide_eq_true h)]; rfl
  · rw [if_neg h, List.countP_cons_of_neg (by rw [decide_eq_false h]; exact Bool.false_ne_true)]; rfl
theorem cnt_lt {p : Nat} : ∀ n : Nat, (List.range n).countP (fun q => decide (q < p)) = min p n := by
  intro n
  induction n with
  | zero => rw [Nat.min_zero]; rfl
  | succ n ihn =>
    rw [List.range_succ, List.countP_append, ihn]
    by_cases h : n < p
    · rw [List.countP_cons_of_pos (by exact decide_eq_true h)]
      show min p n + (0 + 1) = _
      omega
    · rw [List.countP_cons_of_neg (by rw [decide_eq_false h]; exact Bool.false_ne_true)]
      show min p n + 0 = _
      omega
theorem ord_inj {W : Nat → Int} {d : Int} {n : Nat} {o : Nat → Nat} (h : ordD W d n o) {a b : Nat} (ha : a < n) (hb : b < n) (he : o a = o b) : a = b := by
  rcases Nat.lt_trichotomy a b with q | q | q
  · have := h.2.1 a b q hb
    rw [he] at this
    exact absurd this (bef_irr this)
  · exact q
  · have := h.2.1 b a q ha
    rw [he] at this
    exact absurd this (bef_irr this)
theorem ord_perm {W : Nat → Int} {d : Int} {n : Nat} {o : Nat → Nat} (h : ordD W d n o) : ((List.range n).map o).Perm (List.range n) := by
  refine (List.perm_ext_iff_of_nodup ?_ List.nodup_range).mpr fun a => ?_
  · refine List.pairwise_map.mpr (List.nodup_range.imp_of_mem fun {x y} hx hy hxy he => hxy ?_)
    exact ord_inj h (List.mem_range.mp hx) (List.mem_range.mp hy) he
  · rw [List.mem_map, List.mem_range]
    constructor
    · rintro ⟨q, hq, rfl⟩
      exact h.1 q (List.mem_range.mp hq)
    · intro ha
      obtain ⟨q, q1, q2⟩ := h.2.2 a ha
      exact ⟨q, List.mem_range.mpr q1, q2⟩
theorem rk_ord {W : Nat → Int} {d : Int} {n : Nat} {o : Nat → Nat} (h : ordD W d n o) {p : Nat} (hp : p < n) : rkD W d (o p) n = p := by
  unfold rkD
  rw [← (ord_perm h).countP_eq, List.countP_map]
  rw [show (List.range n).countP ((fun x => decide (befD W d x (o p))) ∘ o) = (List.range n).countP (fun q => decide (q < p)) from ?_, cnt_lt, Nat.min_eq_left (by omega)]
  refine List.countP_congr fun q hq => ?_
  have hqn := List.mem_range.mp hq
  show decide (befD W d (o q) (o p)) = true ↔ decide (q < p) = true
  rw [decide_eq_true_iff, decide_eq_true_iff]
  constructor
  · intro hb
    rcases Nat.lt_trichotomy q p with g | g | g
    · exact g
    · subst g; exact absurd hb (bef_irr hb)
    · exact absurd (h.2.1 p q g hqn) (bef_irr hb)
  · intro g; exact h.2.1 q p g hp
theorem ord_rk {W : Nat → Int} {d : Int} {n : Nat} {o : Nat → Nat} (h : ordD W d n o) {r : Nat} (hr : r < n) : rkD W d r n < n ∧ o (rkD W d r n) = r := by
  obtain ⟨q, q1, q2⟩ := h.2.2 r hr
  have hz := rk_ord h q1
  rw [q2] at hz
  rw [hz]
  exact ⟨q1, q2⟩
/-- the writes of sort: column by column, and row by row -/
def coL (Vv : Nat → Nat → Int64) (o : Nat → Nat) (k n : Nat) : List ((Int × Nat) × Int64) := (List.range n).map fun (p : Nat) => (((p : Int), k), Vv (o p) k)
def coLs (Vv : Nat → Nat → Int64) (o : Nat → Nat) (n m : Nat) : List ((Int × Nat) × Int64) := (List.range m).flatMap fun k => coL Vv o k n
def roL (Vv : Nat → Nat → Int64) (rk : Nat → Nat) (r m : Nat) : List ((Int × Nat) × Int64) := (List.range m).map fun l => (((rk r : Nat) : Int), l) |> fun p => (p, Vv r l)
def roLs (Vv : Nat → Nat → Int64) (rk : Nat → Nat) (m n : Nat) : List ((Int × Nat) × Int64) := (List.range n).flatMap fun r => roL Vv rk r m
theorem coL_s {Vv : Nat → Nat → Int64} {o : Nat → Nat} {k n : Nat} : coL Vv o k (n + 1) = coL Vv o k n ++ [(((n : Int), k), Vv (o n) k)] := by
  unfold coL; rw [List.range_succ, List.map_append]; rfl
theorem coLs_s {Vv : Nat → Nat → Int64} {o : Nat → Nat} {n m : Nat} : coLs Vv o n (m + 1) = coLs Vv o n m ++ coL Vv o m n := by
  unfold coLs; rw [List.range_succ, List.flatMap_append]; simp
theorem roL_s {Vv : Nat → Nat → Int64} {rk : Nat → Nat} {r m : Nat} : roL Vv rk r (m + 1) = roL Vv rk r m ++ [((((rk r : Nat) : Int), m), Vv r m)] := by
  unfold roL; rw [List.range_succ, List.map_append]; rfl
theorem roLs_s {Vv : Nat → Nat → Int64} {rk : Nat → Nat} {n m : Nat} : roLs Vv rk m (n + 1) = roLs Vv rk m n ++ roL Vv rk n m := by
  unfold roLs; rw [List.range_succ, List.flatMap_append]; simp
theorem coL_mem {Vv : Nat → Nat → Int64} {o : Nat → Nat} {k n : Nat} {x : (Int × Nat) × Int64} : x ∈ coL Vv o k n ↔ ∃ p, p < n ∧ x = (((p : Int), k), Vv (o p) k) := by
  unfold coL
  rw [List.mem_map]
  exact ⟨fun ⟨p, hp, he⟩ => ⟨p, List.mem_range.mp hp, he.symm⟩, fun ⟨p, hp, he⟩ => ⟨p, List.mem_range.mpr hp, he.symm⟩⟩
theorem coLs_mem {Vv : Nat → Nat → Int64} {o : Nat → Nat} {n m : Nat} {x : (Int × Nat) × Int64} : x ∈ coLs Vv o n m ↔ ∃ p k, p < n ∧ k < m ∧ x = (((p : Int), k), Vv (o p) k) := by
  unfold coLs
  rw [List.mem_flatMap]
  constructor
  · rintro ⟨k, hk, hx⟩
    obtain ⟨p, hp, he⟩ := coL_mem.mp hx
    exact ⟨p, k, hp, List.mem_range.mp hk, he⟩
  · rintro ⟨p, k, hp, hk, he⟩
    exact ⟨k, List.mem_range.mpr hk, coL_mem.mpr ⟨p, hp, he⟩⟩
theorem roL_mem {Vv : Nat → Nat → Int64} {rk : Nat → Nat} {r m : Nat} {x : (Int × Nat) × Int64} : x ∈ roL Vv rk r m ↔ ∃ l, l < m ∧ x = ((((rk r : Nat) : Int), l), Vv r l) := by
  unfold roL
  rw [List.mem_map]
  exact ⟨fun ⟨p, hp, he⟩ => ⟨p, List.mem_range.mp hp, he.symm⟩, fun ⟨p, hp, he⟩ => ⟨p, List.mem_range.mpr hp, he.symm⟩⟩
theorem roLs_mem {Vv : Nat → Nat → Int64} {rk : Nat → Nat} {n m : Nat} {x : (Int × Nat) × Int64} : x ∈ roLs Vv rk m n ↔ ∃ r l, r < n ∧ l < m ∧ x = ((((rk r : Nat) : Int), l), Vv r l) := by
  unfold roLs
  rw [List.mem_flatMap]
  constructor
  · rintro ⟨r, hr, hx⟩
    obtain ⟨l, hl, he⟩ := roL_mem.mp hx
    exact ⟨r, l, List.mem_range.mp hr, hl, he⟩
  · rintro ⟨r, l, hr, hl, he⟩
    exact ⟨r, List.mem_range.mpr hr, roL_mem.mpr ⟨l, hl, he⟩⟩
theorem coLs_nd {Vv : Nat → Nat → Int64} {o : Nat → Nat} {n m : Nat} : (coLs Vv o n m).Nodup := by
  unfold coLs
  refine List.pairwise_flatMap.mpr ⟨fun k _ => List.pairwise_map.mpr (List.nodup_range.imp fun {a b} hab he => hab ?_), List.nodup_range.imp fun {a b} hab x hx y hy he => hab ?_⟩
  · have h1 : ((a : Int), k) = ((b : Int), k) := congrArg Prod.fst he
    have h2 : (a : Int) = (b : Int) := congrArg Prod.fst h1
    omega
  · obtain ⟨p, -, hp⟩ := coL_mem.mp hx
    obtain ⟨q, -, hq⟩ := coL_mem.mp hy
    rw [hp, hq] at he
    exact congrArg (fun z : (Int × Nat) × Int64 => z.1.2) he
theorem roLs_nd {Vv : Nat → Nat → Int64} {rk : Nat → Nat} {n m : Nat} (hi : ∀ a b, a < n → b < n → rk a = rk b → a = b) : (roLs Vv rk m n).Nodup := by
  unfold roLs
  refine List.pairwise_flatMap.mpr ⟨fun r _ => List.pairwise_map.mpr (List.nodup_range.imp fun {a b} hab he => hab ?_), List.nodup_range.imp_of_mem fun {a b} ha hb hab x hx y hy he => hab ?_⟩
  · exact congrArg (fun z : (Int × Nat) × Int64 => z.1.2) he
  · obtain ⟨p, -, hp⟩ := roL_mem.mp hx
    obtain ⟨q, -, hq⟩ := roL_mem.mp hy
    rw [hp, hq] at he
    have h2 : ((rk a : Nat) : Int) = ((rk b : Nat) : Int) := congrArg (fun z : (Int × Nat) × Int64 => z.1.1) he
    exact hi a b (List.mem_range.mp ha) (List.mem_range.mp hb) (by omega)
theorem sort_perm {W : Nat → Int} {d : Int} {Vv : Nat → Nat → Int64} {n m : Nat} {o : Nat → Nat} (h : ordD W d n o) : (coLs Vv o n m).Perm (roLs Vv (fun r => rkD W d r n) m n) := by
  refine (List.perm_ext_iff_of_nodup coLs_nd (roLs_nd fun a b ha hb he => ?_)).mpr fun x => ?_
  · have h1 := (ord_rk h ha).2
    have h2 := (ord_rk h hb).2
    rw [he] at h1
    exact h1.symm.trans h2
  · rw [coLs_mem, roLs_mem]
    constructor
    · rintro ⟨p, k, hp, hk, rfl⟩
      refine ⟨o p, k, h.1 p hp, hk, ?_⟩
      rw [rk_ord h hp]
    · rintro ⟨r, l, hr, hl, rfl⟩
      obtain ⟨h1, h2⟩ := ord_rk h hr
      refine ⟨rkD W d r n, l, h1, hl, ?_⟩
      rw [h2]
