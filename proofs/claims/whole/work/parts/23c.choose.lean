/-! ===== the class chooses an order ===== -/
def stP (P : Nat → Int × Int × Int) (o : Nat → Int) : Nat → Int × Int
  | 0 => (0, 0)
  | k + 1 => (fEn P (stP P o k).1 (stP P o k).2 (o k).toNat, zla (stP P o k).2 (pW P (o k).toNat))
theorem stP_congr {P : Nat → Int × Int × Int} {o o' : Nat → Int} : ∀ k : Nat, (∀ j, j < k → o j = o' j) → stP P o k = stP P o' k := by
  intro k
  induction k with
  | zero => intro _; rfl
  | succ k ihk =>
    intro h
    unfold stP
    rw [ihk fun j hj => h j (by omega), h k (by omega)]
theorem stP_b {n : Nat} {P : Nat → Int × Int × Int} {o : Nat → Int} (hP : okFp n P) : ∀ k : Nat, (∀ j, j < k → 0 ≤ o j ∧ o j < n) → (0 ≤ (stP P o k).1 ∧ (stP P o k).1 ≤ 1300 * k) ∧ 0 ≤ (stP P o k).2 ∧ (stP P o k).2 < 16 := by
  intro k
  induction k with
  | zero => intro _; exact ⟨⟨by show (0 : Int) ≤ 0; omega, by show (0 : Int) ≤ 1300 * ((0 : Nat) : Int); omega⟩, by show (0 : Int) ≤ 0; omega, by show (0 : Int) < 16; omega⟩
  | succ k ihk =>
    intro h
    obtain ⟨h1, h2⟩ := ihk fun j hj => h j (by omega)
    have hk := h k (by omega)
    obtain ⟨p1, p2, p3⟩ := hP.2 (o k).toNat (by omega)
    have hz := zla_b (l := (stP P o k).2) h2 p2
    have hu := zup_b (e := (stP P o k).1) p1
    have h8 := zp8_b p1
    refine ⟨?_, hz.1, hz.2.1⟩
    show 0 ≤ fEn P _ _ _ ∧ fEn P _ _ _ ≤ _
    unfold fEn
    split <;> omega
theorem sub_len : ∀ (p q : List Nat), p.Nodup → (∀ x, x ∈ p → x ∈ q) → p.length ≤ q.length := by
  intro p
  induction p with
  | nil => intro q _ _; exact Nat.zero_le _
  | cons x p ihp =>
    intro q hd hs
    have hd2 := List.nodup_cons.mp hd
    have hx := hs x List.mem_cons_self
    have h1 := ihp (q.erase x) hd2.2 fun y hy => by
      have hne : y ≠ x := fun hc => hd2.1 (hc ▸ hy)
      exact (List.mem_erase_of_ne hne).mpr (hs y (List.mem_cons_of_mem _ hy))
    rw [List.length_erase_of_mem hx] at h1
    have h2 := List.length_pos_of_mem hx
    rw [List.length_cons]
    omega
def isR (n : Nat) (o : Nat → Int) (k : Nat) (q : List Nat) : Prop := q.Nodup ∧ ∀ f : Nat, f ∈ q ↔ f < n ∧ ∀ j, j < k → o j ≠ (f : Int)
def prS (n : Nat) (o : Nat → Int) (k : Nat) (Z : Nat) : Prop := ∀ f : Nat, f < n → (Nat.testBit Z f = true ↔ ∃ j, j < k ∧ o j = (f : Int))
theorem isR_C {n k Z : Nat} {o : Nat → Int} {q : List Nat} (h : prS n o k Z) : isR n o k q ↔ isC n Z q := by
  have hm : ∀ f : Nat, (f < n ∧ ∀ j, j < k → o j ≠ (f : Int)) ↔ (f < n ∧ Nat.testBit Z f = false) := by
    intro f
    constructor
    · intro ⟨h1, h2⟩
      refine ⟨h1, ?_⟩
      cases hz : Nat.testBit Z f with
      | false => rfl
      | true =>
        obtain ⟨j, j1, j2⟩ := (h f h1).mp hz
        exact absurd j2 (h2 j j1)
    · intro ⟨h1, h2⟩
      exact ⟨h1, fun j hj hc => by rw [(h f h1).mpr ⟨j, hj, hc⟩] at h2; cases h2⟩
  unfold isR isC
  constructor
  · intro ⟨a, b⟩; exact ⟨a, fun f => (b f).trans (hm f)⟩
  · intro ⟨a, b⟩; exact ⟨a, fun f => (b f).trans (hm f).symm⟩
theorem isR_congr {n k : Nat} {o o' : Nat → Int} {q : List Nat} (h : ∀ j, j < k → o j = o' j) : isR n o k q ↔ isR n o' k q := by
  have hm : ∀ f : Nat, (f < n ∧ ∀ j, j < k → o j ≠ (f : Int)) ↔ (f < n ∧ ∀ j, j < k → o' j ≠ (f : Int)) := by
    intro f
    constructor
    · intro ⟨h1, h2⟩; exact ⟨h1, fun j hj => by rw [← h j hj]; exact h2 j hj⟩
    · intro ⟨h1, h2⟩; exact ⟨h1, fun j hj => by rw [h j hj]; exact h2 j hj⟩
  unfold isR
  constructor
  · intro ⟨a, b⟩; exact ⟨a, fun f => (b f).trans (hm f)⟩
  · intro ⟨a, b⟩; exact ⟨a, fun f => (b f).trans (hm f).symm⟩
/-- what a begun order keeps -/
def chI (n : Nat) (P : Nat → Int × Int × Int) (t : Int) (o : Nat → Int) (p : Nat) : Prop :=
  (∀ k, k < p → 0 ≤ o k ∧ o k < n) ∧ (∀ j k, j < p → k < p → o j = o k → j = k) ∧ (∀ k, k < p → ∀ (g : Nat) (q : List Nat), isR n o k (g :: q) → eQ P (g :: q) (stP P o k).1 (stP P o k).2 ≤ t → o k ≤ g) ∧ ∃ q, isR n o p q ∧ eQ P q (stP P o p).1 (stP P o p).2 ≤ t
theorem chI_congr {n : Nat} {P : Nat → Int × Int × Int} {t : Int} {o o' : Nat → Int} {p : Nat} (he : ∀ j, j < p → o j = o' j) (h : chI n P t o p) : chI n P t o' p := by
  obtain ⟨a, b, c, q, d1, d2⟩ := h
  refine ⟨fun k hk => by rw [← he k hk]; exact a k hk, fun j k hj hk hjk => b j k hj hk (by rw [he j hj, he k hk]; exact hjk), fun k hk g q hr hq => ?_, q, (isR_congr he).mp d1, by rw [← stP_congr p he]; exact d2⟩
  rw [← he k hk]
  exact c k hk g q ((isR_congr fun j hj => he j (by omega)).mpr hr) (by rw [stP_congr k fun j hj => he j (by omega)]; exact hq)
/-- one more field is chosen -/
theorem chI_step {n : Nat} {P : Nat → Int × Int × Int} {t : Int} {o : Nat → Int} {p Z f : Nat} (h : chI n P t o p) (hs : prS n o p Z) (ho : o p = (f : Int)) (hf : f < n) (hz : Nat.testBit Z f = false) (hq : ∃ q, isC n (Z ||| 2 ^ f) q ∧ eQ P (f :: q) (stP P o p).1 (stP P o p).2 ≤ t)
    (hmin : ∀ g, g < f → Nat.testBit Z g = false → ¬ ∃ q, isC n (Z ||| 2 ^ g) q ∧ eQ P (g :: q) (stP P o p).1 (stP P o p).2 ≤ t) : chI n P t o (p + 1) ∧ prS n o (p + 1) (Z ||| 2 ^ f) ∧ stP P o (p + 1) = (fEn P (stP P o p).1 (stP P o p).2 f, zla (stP P o p).2 (pW P f)) := by
  obtain ⟨a, b, c, d⟩ := h
  have hnew : ∀ j, j < p → o j ≠ (f : Int) := fun j hj hc => by rw [(hs f hf).mpr ⟨j, hj, hc⟩] at hz; cases hz
  have hp2 : prS n o (p + 1) (Z ||| 2 ^ f) := by
    intro g hg
    rw [tb_or, Bool.or_eq_true, hs g hg, decide_eq_true_iff]
    constructor
    · intro hh
      rcases hh with ⟨j, j1, j2⟩ | rfl
      · exact ⟨j, by omega, j2⟩
      · exact ⟨p, by omega, ho⟩
    · intro ⟨j, j1, j2⟩
      by_cases hj : j = p
      · subst hj; right; omega
      · exact .inl ⟨j, by omega, j2⟩
  have hst : stP P o (p + 1) = (fEn P (stP P o p).1 (stP P o p).2 f, zla (stP P o p).2 (pW P f)) := by
    show (fEn P (stP P o p).1 (stP P o p).2 (o p).toNat, zla (stP P o p).2 (pW P (o p).toNat)) = _
    rw [ho, Int.toNat_natCast]
  refine ⟨⟨fun k hk => ?_, fun j k hj hk hjk => ?_, fun k hk g q hr hqe => ?_, ?_⟩, hp2, hst⟩
  · by_cases hkp : k = p
    · subst hkp; omega
    · exact a k (by omega)
  · by_cases hjp : j = p
    · by_cases hkp : k = p
      · omega
      · subst hjp; exact absurd (hjk.symm.trans ho) (hnew k (by omega))
    · by_cases hkp : k = p
      · subst hkp; exact absurd (hjk.trans ho) (hnew j (by omega))
      · exact b j k (by omega) (by omega) hjk
  · by_cases hkp : k = p
    · subst hkp
      obtain ⟨g1, g2, g3⟩ := isC_tail ((isR_C hs).mp hr)
      rw [ho]
      refine Classical.byContradiction fun hn => hmin g (by omega) g2 ⟨q, g3, hqe⟩
    · exact c k (by omega) g q hr hqe
  · obtain ⟨q, q1, q2⟩ := hq
    refine ⟨q, (isR_C hp2).mpr q1, ?_⟩
    rw [hst]
    exact q2
theorem can_iff {n : Nat} {P : Nat → Int × Int × Int} {t e l v : Int} {Z f : Nat} (hP : okFp n P) (ht : ∀ f, f < n → t % pA P f = 0) (hv : isNd n P (Z ||| 2 ^ f) (zla l (pW P f)) v) : fEn P e l f + v ≤ t ↔ ∃ q, isC n (Z ||| 2 ^ f) q ∧ eQ P (f :: q) e l ≤ t := by
  obtain ⟨⟨q0, q1, q2⟩, h2⟩ := hv
  constructor
  · intro h
    refine ⟨q0, q1, ?_⟩
    show eQ P q0 (fEn P e l f) (zla l (pW P f)) ≤ t
    rw [q_dual hP ht q0 _ _ (isC_lt q1), q2]
    exact h
  · intro ⟨q, r1, r2⟩
    have r3 : eQ P q (fEn P e l f) (zla l (pW P f)) ≤ t := r2
    rw [q_dual hP ht q _ _ (isC_lt r1)] at r3
    have := h2 q r1
    omega
theorem cNd_at {s : zSt} {n : Nat} {P : Nat → Int × Int × Int} {Z f : Nat} {l : Int} (hP : okFp n P) (hY : ∀ Y, Y < 2 ^ n → cNd s n P Y) (hZ : Z < 2 ^ n) (hf : f < n) (hl : 0 ≤ l ∧ l < 16) : isNd n P (Z ||| 2 ^ f) (zla l (pW P f)) (zI s 47 (((Z ||| 2 ^ f : Nat) : Int) * 16 + zla l (pW P f))) ∧ 0 ≤ zla l (pW P f) ∧ zla l (pW P f) < 16 := by
  obtain ⟨p1, p2, p3⟩ := hP.2 f hf
  have hzb := zla_b (l := l) hl p2
  refine ⟨?_, hzb.1, hzb.2.1⟩
  obtain ⟨m, hm⟩ : ∃ m : Nat, zla l (pW P f) = m := ⟨(zla l (pW P f)).toNat, by omega⟩
  rw [hm]
  refine hY _ (Nat.or_lt_two_pow hZ (Nat.pow_lt_pow_right (by decide) hf)) m (by omega) ?_
  by_cases hw : pW P f = 0
  · have := hzb.2.2 hw; exact .inl (by omega)
  · exact .inr ⟨f, hf, by rw [tb_or, decide_eq_true rfl, Bool.or_true], by omega⟩
section CHO
variable {S : Option (Nat × (Nat → Int32))} {Q : Option Value ⊕ Nat → zSt → Prop} {n : Nat} {P : Nat → Int × Int × Int} {t : Int}
theorem C_cho_21 {s : zSt} {Z p : Nat} {e l : Int} (hP : okFp n P) (hb : cBo s n P) (hY : ∀ Y, Y < 2 ^ n → cNd s n P Y) (hZ : Z < 2 ^ n) (hp : p < 8) (ht0 : zI s 42 0 = t) (ht : ∀ f, f < n → t % pA P f = 0) (hl : 0 ≤ l ∧ l < 16) (he : 0 ≤ e ∧ e ≤ 20000) (hex : ∃ f, f < n ∧ Nat.testBit Z f = false ∧ ∃ q, isC n (Z ||| 2 ^ f) q ∧ eQ P (f :: q) e l ≤ t)
    (kf : ∀ f : Nat, f < n → Nat.testBit Z f = false → (∃ q, isC n (Z ||| 2 ^ f) q ∧ eQ P (f :: q) e l ≤ t) → (∀ g, g < f → Nat.testBit Z g = false → ¬ ∃ q, isC n (Z ||| 2 ^ g) q ∧ eQ P (g :: q) e l ≤ t) → wp S 84 9 [(0, rf 42), (1, iv ((Z ||| 2 ^ f : Nat) : Int)), (2, iv (fEn P e l f)), (3, iv (zla l (pW P f))), (4, iv ((p : Int) + 1))] [] (zwI s 43 p f) Q) (m : Nat) :
    ∀ f : Nat, f + m = n → (∀ g, g < f → Nat.testBit Z g = false → ¬ ∃ q, isC n (Z ||| 2 ^ g) q ∧ eQ P (g :: q) e l ≤ t) → wp S 84 21 [(0, rf 42), (1, iv Z), (2, iv e), (3, iv l), (4, iv p), (5, iv f)] [] s Q := by
  have h8 := hP.1
  have hZ2 : Z < 256 := Nat.lt_of_lt_of_le hZ (Nat.pow_le_pow_right (by decide) h8 : 2 ^ n ≤ 2 ^ 8)
  induction m with
  | zero =>
    intro f hf hg
    obtain ⟨g, g1, g2, g3⟩ := hex
    exact absurd g3 (hg g (by omega) g2)
  | succ m ihm =>
    intro f hf hg
    have hfn : f < n := by omega
    have htb := tb_T hZ2 (show f < 8 by omega)
    have hst := set_tab Z hZ2 f (by omega)
    obtain ⟨p1, p2, p3⟩ := hP.2 f hfn
    obtain ⟨b1, b2, b3⟩ := hb.2 f hfn
    obtain ⟨hc1, hc2, hc3⟩ := cNd_at (l := l) hP hY hZ hfn hl
    have hvb := isNd_b hP hc1
    have hcan := can_iff (e := e) hP ht hc1
    have hub := zup_b (e := e) p1
    have h8b := zp8_b p1
    have hno : (Nat.testBit Z f = false → ¬ ∃ q, isC n (Z ||| 2 ^ f) q ∧ eQ P (f :: q) e l ≤ t) → wp S 84 21 [(0, rf 42), (1, iv Z), (2, iv e), (3, iv l), (4, iv p), (5, iv ((f : Int) + 1))] [] s Q := fun hh => ihm (f + 1) (by omega) fun g hg2 hgz => by
      by_cases hgf : g = f
      · subst hgf; exact hh hgz
      · exact hg g (by omega) hgz
    have hyes : zand (zshr (Z : Int) (f : Int)) 1 = 1 → wp S 84 21 [(0, rf 42), (1, iv Z), (2, iv e), (3, iv l), (4, iv p), (5, iv ((f : Int) + 1))] [] s Q := fun hh => hno fun hz => by rw [htb.mp hh] at hz; cases hz
    have hzf : zand (zshr (Z : Int) (f : Int)) 1 ≠ 1 → Nat.testBit Z f = false := fun hh => by
      cases hzz : Nat.testBit Z f with
      | false => rfl
      | true => exact absurd (htb.mpr hzz) hh
    refine v_BestOrder_choose_21 ?_
    rw [hb.1, b1, b2, b3, hst.1, ht0]
    refine ⟨⟨by omega, by omega⟩, fun hc => by omega, fun _ => ⟨⟨by omega, by omega⟩, ⟨by omega, by omega⟩, fun hn => ?_, fun hn => ?_⟩⟩
    · have hfe : fEn P e l f = zup e (pA P f) + pL P f := by unfold fEn; rw [if_neg hn]
      rw [hfe] at hcan
      have hkf := kf f hfn
      rw [hfe] at hkf
      exact ⟨zp8_zp2 p1, he.1, by omega, hyes, fun hz => ⟨⟨by omega, by omega⟩, ⟨by omega, by omega⟩, fun hle => ⟨⟨by omega, by omega⟩, hkf (hzf hz) (hcan.mp hle) hg⟩, fun hlt => hno fun _ hq => by have := hcan.mpr hq; omega⟩⟩
    · have hfe : fEn P e l f = e := by unfold fEn; rw [if_pos hn]
      rw [hfe] at hcan
      have hkf := kf f hfn
      rw [hfe] at hkf
      exact ⟨hyes, fun hz => ⟨⟨by omega, by omega⟩, ⟨by omega, by omega⟩, fun hle => ⟨⟨by omega, by omega⟩, hkf (hzf hz) (hcan.mp hle) hg⟩, fun hlt => hno fun _ hq => by have := hcan.mpr hq; omega⟩⟩
theorem C_cho_9 (hP : okFp n P) (ht : ∀ f, f < n → t % pA P f = 0) (m : Nat) : ∀ (p Z : Nat) (s : zSt), p + m = n → cBo s n P → (∀ Y, Y < 2 ^ n → cNd s n P Y) → Z < 2 ^ n → zI s 42 0 = t → chI n P t (fun k => zI s 43 k) p → prS n (fun k => zI s 43 k) p Z → (∀ u, frm (fun a => a = 43) s u → chI n P t (fun k => zI u 43 k) n → Q rU u) →
    wp S 84 9 [(0, rf 42), (1, iv Z), (2, iv (stP P (fun k => zI s 43 k) p).1), (3, iv (stP P (fun k => zI s 43 k) p).2), (4, iv p)] [] s Q := by
  have h8 := hP.1
  induction m with
  | zero =>
    intro p Z s hp hb hY hZ ht0 hI hs hQ
    refine v_BestOrder_choose_9 ?_
    rw [hb.1]
    refine ⟨⟨by omega, by omega⟩, fun _ => hQ s frm_refl (by rw [show n = p by omega]; rw [show n = p by omega] at hI; exact hI), fun hc => by omega⟩
  | succ m ihm =>
    intro p Z s hp hb hY hZ ht0 hI hs hQ
    have hstb := stP_b (P := P) (o := fun k : Nat => zI s 43 k) hP p hI.1
    have hex : ∃ f, f < n ∧ Nat.testBit Z f = false ∧ ∃ q, isC n (Z ||| 2 ^ f) q ∧ eQ P (f :: q) (stP P (fun k : Nat => zI s 43 k) p).1 (stP P (fun k : Nat => zI s 43 k) p).2 ≤ t := by
      obtain ⟨q, q1, q2⟩ := hI.2.2.2
      cases q with
      | nil =>
        have hsub := sub_len (List.range n) ((List.range p).map fun j : Nat => (zI s 43 (j : Int)).toNat) List.nodup_range fun x hx => by
          have hxn := List.mem_range.mp hx
          refine Classical.byContradiction fun hno => ?_
          refine List.not_mem_nil ((q1.2 x).mpr ⟨hxn, fun j hj hc => hno (List.mem_map.mpr ⟨j, List.mem_range.mpr hj, ?_⟩)⟩)
          show (zI s 43 (j : Int)).toNat = x
          rw [show zI s 43 (j : Int) = (x : Int) from hc, Int.toNat_natCast]
        rw [List.length_range, List.length_map, List.length_range] at hsub
        omega
      | cons f q =>
        obtain ⟨f1, f2, f3⟩ := isC_tail ((isR_C hs).mp q1)
        exact ⟨f, f1, f2, q, f3, q2⟩
    refine v_BestOrder_choose_9 ?_
    rw [hb.1]
    refine ⟨⟨by omega, by omega⟩, fun hc => by omega, fun _ => ?_⟩
    refine C_cho_21 (t := t) hP hb hY hZ (by omega) ht0 ht hstb.2 ⟨by omega, by omega⟩ hex (fun f hf hz hq hmin => ?_) n 0 (by omega) fun g hg => absurd hg (Nat.not_lt_zero g)
    have hag : ∀ j : Nat, j < p → zI s 43 (j : Int) = zI (zwI s 43 p f) 43 (j : Int) := fun j hj => by rw [zI_nj (by omega)]
    have hI2 : chI n P t (fun k : Nat => zI (zwI s 43 p f) 43 (k : Int)) p := chI_congr hag hI
    have hs2 : prS n (fun k : Nat => zI (zwI s 43 p f) 43 (k : Int)) p Z := fun g hg => (hs g hg).trans ⟨fun ⟨j, j1, j2⟩ => ⟨j, j1, by show zI (zwI s 43 p f) 43 (j : Int) = _; rw [← hag j j1]; exact j2⟩, fun ⟨j, j1, j2⟩ => ⟨j, j1, by show zI s 43 (j : Int) = _; rw [hag j j1]; exact j2⟩⟩
    have hse : stP P (fun k : Nat => zI s 43 (k : Int)) p = stP P (fun k : Nat => zI (zwI s 43 p f) 43 (k : Int)) p := stP_congr p hag
    rw [hse] at hq hmin ⊢
    obtain ⟨s1, s2, s3⟩ := chI_step hI2 hs2 (show zI (zwI s 43 p f) 43 (p : Int) = (f : Int) from zI_eq) hf hz hq hmin
    have hfr : frm (fun a => a = 43) s (zwI s 43 p f) := frm_I frm_refl rfl
    have hz2 := ihm (p + 1) (Z ||| 2 ^ f) (zwI s 43 p f) (by omega) (cBo_fr hb hfr ⟨by omega, by omega, by omega, by omega⟩) (fun Y y l hl2 hlh => by rw [zI_ne (by omega)]; exact hY Y y l hl2 hlh) (Nat.or_lt_two_pow hZ (Nat.pow_lt_pow_right (by decide) hf)) (by rw [zI_ne (by omega)]; exact ht0) s1 s2 fun u hfu hu => hQ u (frm_trans hfr hfu) hu
    rw [s3] at hz2
    exact hz2
theorem C_choose {s : zSt} (hP : okFp n P) (ht : ∀ f, f < n → t % pA P f = 0) (hb : cBo s n P) (hY : ∀ Y, Y < 2 ^ n → cNd s n P Y) (ht0 : zI s 42 0 = t) (hv : ∃ v, isNd n P 0 0 v ∧ v ≤ t) (k1 : ∀ u, frm (fun a => a = 43) s u → chI n P t (fun k => zI u 43 k) n → Q rU u) : wp S 84 0 [(0, rf 42)] [] s Q := by
  have hs : prS n (fun k : Nat => zI s 43 (k : Int)) 0 0 := fun f _ => ⟨fun h => (by rw [Nat.zero_testBit] at h; cases h), fun ⟨j, j1, _⟩ => absurd j1 (Nat.not_lt_zero j)⟩
  refine v_BestOrder_choose_0 (C_cho_9 hP ht n 0 0 s (by omega) hb hY (Nat.two_pow_pos n) ht0 ⟨fun k hk => absurd hk (Nat.not_lt_zero k), fun j k hj => absurd hj (Nat.not_lt_zero j), fun k hk => absurd hk (Nat.not_lt_zero k), ?_⟩ hs k1)
  obtain ⟨v, ⟨⟨q, q1, q2⟩, _⟩, v2⟩ := hv
  refine ⟨q, (isR_C hs).mpr q1, ?_⟩
  rw [q_dual hP ht q _ _ (isC_lt q1)]
  show (0 : Int) + nQ P q 0 ≤ t
  omega
end CHO
