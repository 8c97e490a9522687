/-! ===== an order of fields, seen from both ends ===== -/
def pA (P : Nat → Int × Int × Int) (f : Nat) : Int := (P f).1
def pW (P : Nat → Int × Int × Int) (f : Nat) : Int := (P f).2.1
def pL (P : Nat → Int × Int × Int) (f : Nat) : Int := (P f).2.2
def okFp (n : Nat) (P : Nat → Int × Int × Int) : Prop := n ≤ 8 ∧ ∀ f, f < n → zp8 (pA P f) ∧ (0 ≤ pW P f ∧ pW P f ≤ 16) ∧ (0 ≤ pL P f ∧ pL P f ≤ 1280)
def fEn (P : Nat → Int × Int × Int) (e l : Int) (f : Nat) : Int := if 0 < pW P f ∧ pW P f ≤ l then e else zup e (pA P f) + pL P f
def gNd (P : Nat → Int × Int × Int) (l : Int) (f : Nat) (r : Int) : Int := if 0 < pW P f ∧ pW P f ≤ l then r else zup (r + pL P f) (pA P f)
def eQ (P : Nat → Int × Int × Int) : List Nat → Int → Int → Int
  | [], e, _ => e
  | f :: q, e, l => eQ P q (fEn P e l f) (zla l (pW P f))
def nQ (P : Nat → Int × Int × Int) : List Nat → Int → Int
  | [], _ => 0
  | f :: q, l => gNd P l f (nQ P q (zla l (pW P f)))
theorem zup_dual {a e x t : Int} (ha : zp8 a) (ht : t % a = 0) : zup e a + x ≤ t ↔ e + zup x a ≤ t := by
  unfold zup
  rcases ha with rfl | rfl | rfl | rfl <;> omega
theorem zup_le {a x y : Int} (ha : zp8 a) (h : x ≤ y) : zup x a ≤ zup y a := by
  unfold zup
  rcases ha with rfl | rfl | rfl | rfl <;> omega
theorem zup_least {a x t : Int} (ha : zp8 a) (ht : t % a = 0) (h : x ≤ t) : zup x a ≤ t := by
  unfold zup
  rcases ha with rfl | rfl | rfl | rfl <;> omega
theorem q_dual {n : Nat} {P : Nat → Int × Int × Int} {t : Int} (hP : okFp n P) (ht : ∀ f, f < n → t % pA P f = 0) : ∀ (q : List Nat) (e l : Int), (∀ f, f ∈ q → f < n) → (eQ P q e l ≤ t ↔ e + nQ P q l ≤ t) := by
  intro q
  induction q with
  | nil =>
    intro e l _
    show e ≤ t ↔ e + 0 ≤ t
    rw [Int.add_zero]
  | cons f q ihq =>
    intro e l hq
    have hf := hq f List.mem_cons_self
    have ih := ihq (fEn P e l f) (zla l (pW P f)) fun x hx => hq x (List.mem_cons_of_mem _ hx)
    show eQ P q (fEn P e l f) (zla l (pW P f)) ≤ t ↔ e + gNd P l f (nQ P q (zla l (pW P f))) ≤ t
    rw [ih]
    unfold fEn gNd
    by_cases hc : 0 < pW P f ∧ pW P f ≤ l
    · rw [if_pos hc, if_pos hc]
    · rw [if_neg hc, if_neg hc]
      have hd := zup_dual (e := e) (x := nQ P q (zla l (pW P f)) + pL P f) (hP.2 f hf).1 (ht f hf)
      rw [← hd]
      constructor <;> intro h <;> omega
theorem gNd_mono {n : Nat} {P : Nat → Int × Int × Int} {l x y : Int} {f : Nat} (hP : okFp n P) (hf : f < n) (h : x ≤ y) : gNd P l f x ≤ gNd P l f y := by
  unfold gNd
  split
  · exact h
  · exact zup_le (hP.2 f hf).1 (by omega)
theorem gNd_b {n : Nat} {P : Nat → Int × Int × Int} {l x : Int} {f : Nat} (hP : okFp n P) (hf : f < n) (h : 0 ≤ x) : 0 ≤ gNd P l f x ∧ gNd P l f x ≤ x + 1300 := by
  obtain ⟨h1, h2, h3⟩ := hP.2 f hf
  have hb := zup_b (e := x + pL P f) h1
  have h8 := zp8_b h1
  unfold gNd
  split <;> omega
theorem nQ_b {n : Nat} {P : Nat → Int × Int × Int} (hP : okFp n P) : ∀ (q : List Nat) (l : Int), (∀ f, f ∈ q → f < n) → 0 ≤ nQ P q l ∧ nQ P q l ≤ 1300 * q.length := by
  intro q
  induction q with
  | nil => intro l _; show (0 : Int) ≤ 0 ∧ (0 : Int) ≤ 1300 * ((0 : Nat) : Int); omega
  | cons f q ihq =>
    intro l hq
    have ih := ihq (zla l (pW P f)) fun x hx => hq x (List.mem_cons_of_mem _ hx)
    have hg := gNd_b (l := l) hP (hq f List.mem_cons_self) ih.1
    have hlen : (f :: q).length = q.length + 1 := List.length_cons
    show 0 ≤ gNd P l f _ ∧ gNd P l f _ ≤ _
    rw [hlen]
    omega
/-! fields that are left -/
theorem nd_len : ∀ (n : Nat) (q : List Nat), q.Nodup → (∀ f, f ∈ q → f < n) → q.length ≤ n := by
  intro n
  induction n with
  | zero =>
    intro q _ h
    cases q with
    | nil => exact Nat.le_refl _
    | cons f q => exact absurd (h f List.mem_cons_self) (Nat.not_lt_zero f)
  | succ n ihn =>
    intro q hd h
    by_cases hn : n ∈ q
    · have h1 := ihn (q.erase n) (hd.erase n) fun f hf => by
        have h2 := (List.Nodup.mem_erase_iff hd).mp hf
        have h3 := h f h2.2
        have h4 := h2.1
        omega
      rw [List.length_erase_of_mem hn] at h1
      omega
    · have h1 := ihn q hd fun f hf => by
        have h3 := h f hf
        have h4 : f ≠ n := fun hc => hn (hc ▸ hf)
        omega
      omega
theorem nd_all {n : Nat} {q : List Nat} (hd : q.Nodup) (h : ∀ f, f ∈ q → f < n) (hl : q.length = n) {f : Nat} (hf : f < n) : f ∈ q := by
  refine Classical.byContradiction fun hn => ?_
  have h1 := nd_len n (f :: q) (List.nodup_cons.mpr ⟨hn, hd⟩) fun x hx => by
    rcases List.mem_cons.mp hx with rfl | hx
    · exact hf
    · exact h x hx
  rw [List.length_cons] at h1
  omega
def isC (n : Nat) (S : Nat) (q : List Nat) : Prop := q.Nodup ∧ ∀ f, f ∈ q ↔ f < n ∧ Nat.testBit S f = false
def isNd (n : Nat) (P : Nat → Int × Int × Int) (S : Nat) (l v : Int) : Prop := (∃ q, isC n S q ∧ nQ P q l = v) ∧ ∀ q, isC n S q → v ≤ nQ P q l
theorem tb_or {S f g : Nat} : Nat.testBit (S ||| 2 ^ f) g = (Nat.testBit S g || decide (f = g)) := by
  rw [Nat.testBit_or, Nat.testBit_two_pow]
theorem isC_cons {n S f : Nat} {q : List Nat} (hf : f < n) (hs : Nat.testBit S f = false) (h : isC n (S ||| 2 ^ f) q) : isC n S (f :: q) := by
  refine ⟨List.nodup_cons.mpr ⟨fun hm => ?_, h.1⟩, fun g => ?_⟩
  · have := ((h.2 f).mp hm).2
    rw [tb_or, decide_eq_true rfl, Bool.or_true] at this
    cases this
  · rw [List.mem_cons, h.2 g, tb_or]
    constructor
    · intro hh
      rcases hh with rfl | ⟨h1, h2⟩
      · exact ⟨hf, hs⟩
      · exact ⟨h1, (Bool.or_eq_false_iff.mp h2).1⟩
    · intro ⟨h1, h2⟩
      by_cases hc : f = g
      · exact .inl hc.symm
      · exact .inr ⟨h1, by rw [h2, decide_eq_false hc]; rfl⟩
theorem isC_tail {n S f : Nat} {q : List Nat} (h : isC n S (f :: q)) : f < n ∧ Nat.testBit S f = false ∧ isC n (S ||| 2 ^ f) q := by
  have h1 := (h.2 f).mp List.mem_cons_self
  have h2 := List.nodup_cons.mp h.1
  refine ⟨h1.1, h1.2, h2.2, fun g => ?_⟩
  have h3 := h.2 g
  rw [List.mem_cons] at h3
  rw [tb_or, Bool.or_eq_false_iff]
  constructor
  · intro hm
    have h4 := h3.mp (.inr hm)
    exact ⟨h4.1, h4.2, decide_eq_false fun hc => h2.1 (hc ▸ hm)⟩
  · intro ⟨h4, h5, h6⟩
    rcases h3.mpr ⟨h4, h5⟩ with h7 | h7
    · exact absurd h7.symm (of_decide_eq_false h6)
    · exact h7
theorem isC_lt {n S : Nat} {q : List Nat} (h : isC n S q) : ∀ f, f ∈ q → f < n := fun f hf => ((h.2 f).mp hf).1
theorem isNd_b {n : Nat} {P : Nat → Int × Int × Int} {S : Nat} {l v : Int} (hP : okFp n P) (h : isNd n P S l v) : 0 ≤ v ∧ v ≤ 10400 := by
  obtain ⟨⟨q, h1, h2⟩, -⟩ := h
  have hb := nQ_b hP q l (isC_lt h1)
  have hl := nd_len n q h1.1 (isC_lt h1)
  have h8 := hP.1
  omega
theorem isNd_full {n : Nat} {P : Nat → Int × Int × Int} {S : Nat} {l : Int} (h : ∀ f, f < n → Nat.testBit S f = true) : isNd n P S l 0 := by
  refine ⟨⟨[], ⟨List.nodup_nil, fun f => ⟨fun hm => (List.not_mem_nil hm).elim, fun ⟨h1, h2⟩ => by rw [h f h1] at h2; cases h2⟩⟩, rfl⟩, fun q hq => ?_⟩
  cases q with
  | nil => exact Int.le_refl _
  | cons f q =>
    have h1 := (hq.2 f).mp List.mem_cons_self
    rw [h f h1.1] at h1
    cases h1.2
theorem isNd_min {n : Nat} {P : Nat → Int × Int × Int} {S : Nat} {l v : Int} {c : Nat → Int} (hP : okFp n P) (hc : ∀ f, f < n → Nat.testBit S f = false → isNd n P (S ||| 2 ^ f) (zla l (pW P f)) (c f)) (h1 : ∃ f, f < n ∧ Nat.testBit S f = false ∧ v = gNd P l f (c f)) (h2 : ∀ f, f < n → Nat.testBit S f = false → v ≤ gNd P l f (c f)) : isNd n P S l v := by
  constructor
  · obtain ⟨f, f1, f2, f3⟩ := h1
    obtain ⟨⟨q, q1, q2⟩, -⟩ := hc f f1 f2
    exact ⟨f :: q, isC_cons f1 f2 q1, by show gNd P l f (nQ P q _) = v; rw [q2, f3]⟩
  · intro q hq
    cases q with
    | nil =>
      obtain ⟨f, f1, f2, _⟩ := h1
      exact (List.not_mem_nil ((hq.2 f).mpr ⟨f1, f2⟩)).elim
    | cons f q =>
      obtain ⟨f1, f2, f3⟩ := isC_tail hq
      exact Int.le_trans (h2 f f1 f2) (gNd_mono hP f1 ((hc f f1 f2).2 q f3))
theorem set_tab : ∀ S : Nat, S < 256 → ∀ f : Nat, f < 8 → zor (S : Int) (zshl 1 (f : Int)) = ((S ||| 2 ^ f : Nat) : Int) ∧ zand (zshr (S : Int) (f : Int)) 1 = (if Nat.testBit S f then 1 else 0) ∧ S ||| 2 ^ f < 256 ∧ (Nat.testBit S f = false → S < S ||| 2 ^ f) := by decide +kernel
theorem shl_tab : ∀ n : Nat, n < 9 → zshl 1 (n : Int) = ((2 ^ n : Nat) : Int) := by decide +kernel
theorem full_bits {n S : Nat} (hS : S < 2 ^ n) : S + 1 = 2 ^ n ↔ ∀ f, f < n → Nat.testBit S f = true := by
  constructor
  · intro h f hf
    rw [show S = 2 ^ n - 1 by omega, Nat.testBit_two_pow_sub_one]
    exact decide_eq_true hf
  · intro h
    have e : S = 2 ^ n - 1 := by
      apply Nat.eq_of_testBit_eq
      intro j
      rw [Nat.testBit_two_pow_sub_one]
      by_cases hj : j < n
      · rw [h j hj, decide_eq_true hj]
      · rw [decide_eq_false hj, Nat.testBit_lt_two_pow (Nat.lt_of_lt_of_le hS (Nat.pow_le_pow_right (by decide) (by omega)))]
    have := Nat.two_pow_pos n
    omega
