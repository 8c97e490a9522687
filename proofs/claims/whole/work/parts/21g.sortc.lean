/-! ===== sort of the class: the writes ===== -/
section OPS23
variable {S : Option (Nat × (Nat → Int32))} {Q : Option Value ⊕ Nat → zSt → Prop} {s : zSt} {D : Int → Int} {H : List (Int → Int)} {T : List Int}
def vvD (D : Int → Int) (t : Int) (r k : Nat) : Int64 := valD D t r k
theorem vOpen_61 {u : zSt} {t : Int} {L : List ((Int × Nat) × Int64)} (hA : okA D) (hv : isLv D t) (hL : ∀ p ∈ L, inP D t p.1) (h : vOpen s (seqW D t D L) t) (hf : frm (fun x => x = 60 ∨ x = 61) s u) : vOpen u (seqW D t D L) t := by
  obtain ⟨h1, h2⟩ := seq_okA hA hv hL
  exact vOpen_S h2 (tG_ag hA h1 hv).1 h hf
theorem vOpen_rows {t : Int} {L : List ((Int × Nat) × Int64)} (hA : okA D) (hv : isLv D t) (hL : ∀ p ∈ L, inP D t p.1) (h : vOpen s (seqW D t D L) t) : zI s 48 2 = tNr D t ∧ zI s 48 3 = ((gV (tG D t)).length : Int) := by
  obtain ⟨g1, g2, -⟩ := geo_ag hA hv (seq_okA hA hv hL).1
  have h2 := h.2.2.1.1
  have h3 := h.2.2.1.2.1
  rw [g2] at h2
  rw [g1] at h3
  exact ⟨h2, h3⟩
theorem X_reorder_48 {t : Int} {k : Nat} {o : Nat → Nat} {L : List ((Int × Nat) × Int64)} (hA : okA D) (hv : isLv D t) (hk : k < (gV (tG D t)).length) (hL : ∀ p ∈ L, inP D t p.1) (n : Nat) : ∀ (i : Nat) (s : zSt), (i : Int) + n = tNr D t → vOpen s (seqW D t D (L ++ coL (vvD D t) o k i)) t → (∀ q : Nat, (q : Int) < tNr D t → zL s 61 q = vvD D t (o q) k) → (∀ u, frm (fun x => x = 6) s u → vOpen u (seqW D t D (L ++ coL (vvD D t) o k (tNr D t).toNat)) t → Q rU u) → wp S 148 48 [(0, rf 2), (1, iv k), (2, iv i)] [] s Q := by
  have h12 := (isLv_ok hA hv).2.2.1
  have hLi : ∀ i : Nat, (i : Int) ≤ tNr D t → ∀ p ∈ L ++ coL (vvD D t) o k i, inP D t p.1 := fun i hi p hp => by
    rcases List.mem_append.mp hp with hp | hp
    · exact hL p hp
    · obtain ⟨q, hq, rfl⟩ := coL_mem.mp hp
      exact ⟨⟨by show (0 : Int) ≤ q; omega, by show (q : Int) < _; omega⟩, hk⟩
  induction n with
  | zero =>
    intro i s hi hop hcl k1
    have h2 := (vOpen_rows hA hv (hLi i (by omega)) hop).1
    exact v_RL_reorderColumn_48 ⟨⟨by omega, by omega⟩, fun _ => k1 s frm_refl (by rw [show (tNr D t).toNat = i by omega]; exact hop), fun hc => by omega⟩
  | succ n ihn =>
    intro i s hi hop hcl k1
    have h2 := (vOpen_rows hA hv (hLi i (by omega)) hop).1
    refine v_RL_reorderColumn_48 ⟨⟨by omega, by omega⟩, fun hc => by omega, fun _ => ⟨⟨by omega, by omega⟩, ?_⟩⟩
    rw [hcl i (by omega)]
    refine XS_write hA hv (hLi i (by omega)) hop ⟨⟨by show (0 : Int) ≤ i; omega, by show (i : Int) < _; omega⟩, hk⟩ fun u hfu hou => zkU_U ?_
    refine ihn (i + 1) u (by omega) ?_ (fun q hq => (fL hfu (by omega)).trans (hcl q hq)) fun w hfw how => k1 w (frm_trans hfu hfw) how
    rw [coL_s, ← List.append_assoc]
    exact hou
theorem X_reorder_2 {t : Int} {k : Nat} {o : Nat → Nat} {L : List ((Int × Nat) × Int64)} (hA : okA D) (hv : isLv D t) (hk : k < (gV (tG D t)).length) (hL : ∀ p ∈ L, inP D t p.1) (hLk : ∀ p ∈ L, p.1.2 ≠ k) (ho : ∀ q : Nat, (q : Int) < tNr D t → (o q : Int) < tNr D t) (n : Nat) : ∀ (i : Nat) (s : zSt), (i : Int) + n = tNr D t → vOpen s (seqW D t D L) t → (∀ q : Nat, (q : Int) < tNr D t → zI s 60 q = (o q : Int)) → (∀ q : Nat, q < i → zL s 61 q = vvD D t (o q) k) → (∀ u, frm (fun x => x = 60 ∨ x = 61) s u → vOpen u (seqW D t D L) t → (∀ q : Nat, (q : Int) < tNr D t → zL u 61 q = vvD D t (o q) k) → (∀ q : Nat, zI u 60 q = zI s 60 q) → wp S 148 48 [(0, rf 2), (1, iv k), (2, iv 0)] [] u Q) → wp S 148 2 [(0, rf 2), (1, iv k), (2, iv i)] [] s Q := by
  have h12 := (isLv_ok hA hv).2.2.1
  induction n with
  | zero =>
    intro i s hi hop h60 hcl k1
    have h2 := (vOpen_rows hA hv hL hop).1
    exact v_RL_reorderColumn_2 ⟨⟨by omega, by omega⟩, fun _ => k1 s frm_refl hop (fun q hq => hcl q (by omega)) fun q => rfl, fun hc => by omega⟩
  | succ n ihn =>
    intro i s hi hop h60 hcl k1
    have h2 := (vOpen_rows hA hv hL hop).1
    refine v_RL_reorderColumn_2 ⟨⟨by omega, by omega⟩, fun hc => by omega, fun _ => ⟨⟨by omega, by omega⟩, ?_⟩⟩
    rw [h60 i (by omega)]
    have hoi := ho i (by omega)
    refine XS_read hA hv hL hop ⟨⟨by show (0 : Int) ≤ o i; omega, hoi⟩, hk⟩ (fun p hp hc => hLk p hp (congrArg Prod.snd hc)) (zkL_L ?_)
    have hf : frm (fun x => x = 60 ∨ x = 61) s (zwL s 61 i (valD D t (o i) k)) := frm_L frm_refl (by omega)
    refine ihn (i + 1) _ (by omega) (vOpen_61 hA hv hL hop hf) (fun q hq => by rw [zI_wL]; exact h60 q hq) (fun q hq => ?_) fun u hfu hou hc6 h6 => k1 u (frm_trans hf hfu) hou hc6 fun q => by rw [h6 q, zI_wL]
    rw [zL_wL]
    by_cases hqi : q = i
    · subst hqi; rw [if_pos ⟨rfl, rfl⟩]; rfl
    · rw [if_neg (by omega)]; exact hcl q (by omega)
theorem X_sort_24 {t : Int} {o : Nat → Nat} (hA : okA D) (hv : isLv D t) (ho : ∀ q : Nat, (q : Int) < tNr D t → (o q : Int) < tNr D t) (n : Nat) : ∀ (k : Nat) (s : zSt), k + n = (gV (tG D t)).length → vOpen s (seqW D t D (coLs (vvD D t) o (tNr D t).toNat k)) t → (∀ q : Nat, (q : Int) < tNr D t → zI s 60 q = (o q : Int)) → (∀ u, frm cS s u → vOpen u (seqW D t D (coLs (vvD D t) o (tNr D t).toNat (gV (tG D t)).length)) t → (∀ q : Nat, (q : Int) < tNr D t → zI u 60 q = (o q : Int)) → wp S 146 54 [(0, rf 2), (4, iv 0), (5, iv 0)] [] u Q) → wp S 146 24 [(0, rf 2), (4, iv k)] [] s Q := by
  have hT := isLv_ok hA hv
  have h12 := hT.2.2.1
  have h40 : (gV (tG D t)).length ≤ 40 := (okG_shp hA.1 hT.1.1 hT.1.2).2.1
  have hLk : ∀ k : Nat, k ≤ (gV (tG D t)).length → ∀ p ∈ coLs (vvD D t) o (tNr D t).toNat k, inP D t p.1 := fun k hk p hp => by
    obtain ⟨q, l, hq, hl, rfl⟩ := coLs_mem.mp hp
    exact ⟨⟨by show (0 : Int) ≤ q; omega, by show (q : Int) < _; omega⟩, by show l < _; omega⟩
  induction n with
  | zero =>
    intro k s hk hop h60 k1
    have h3 := (vOpen_rows hA hv (hLk k (by omega)) hop).2
    refine v_RL_sort_24 ⟨⟨by omega, by omega⟩, fun _ => k1 s frm_refl (by rw [show (gV (tG D t)).length = k by omega]; exact hop) h60, fun hc => by omega⟩
  | succ n ihn =>
    intro k s hk hop h60 k1
    have h3 := (vOpen_rows hA hv (hLk k (by omega)) hop).2
    refine v_RL_sort_24 ⟨⟨by omega, by omega⟩, fun hc => by omega, fun _ => v_RL_reorderColumn_0 ?_⟩
    refine X_reorder_2 (o := o) hA hv (by omega) (hLk k (by omega)) (fun p hp => ?_) ho (tNr D t).toNat 0 s (by omega) hop h60 (fun q h => absurd h (Nat.not_lt_zero _)) fun u hfu hou hcl h6 => ?_
    · obtain ⟨q, l, hq, hl, rfl⟩ := coLs_mem.mp hp
      show l ≠ k
      omega
    · refine X_reorder_48 (o := o) hA hv (by omega) (hLk k (by omega)) (tNr D t).toNat 0 u (by omega) (by show vOpen u (seqW D t D (coLs (vvD D t) o (tNr D t).toNat k ++ [])) t; rw [List.append_nil]; exact hou) hcl fun w hfw how => zkU_U ?_
      have hfs : frm cS s w := frm_trans (frm_mono hfu fun x hx => by unfold cS; omega) (frm_mono hfw fun x hx => by unfold cS; omega)
      exact ihn (k + 1) w (by omega) (by rw [coLs_s]; exact how) (fun q hq => by rw [fI hfw (by omega), h6 q]; exact h60 q hq) fun x hfx hox hx6 => k1 x (frm_trans hfs hfx) hox hx6
theorem X_sort_54 {t : Int} {o : Nat → Nat} {m : Int} (hm : m = tNr D t) (h12 : 1 ≤ tNr D t ∧ tNr D t ≤ 12) (h48 : zI s 48 2 = m) (h60 : ∀ q : Nat, (q : Int) < tNr D t → zI s 60 q = (o q : Int)) (k1 : Q (rI (mvN o (tNr D t).toNat)) s) (n : Nat) : ∀ p : Nat, (p : Int) + n = tNr D t → wp S 146 54 [(0, rf 2), (4, iv (mvN o p)), (5, iv p)] [] s Q := by
  induction n with
  | zero =>
    intro p hp
    exact v_RL_sort_54 ⟨⟨by omega, by omega⟩, fun _ => by rw [show p = (tNr D t).toNat by omega]; exact k1, fun hc => by omega⟩
  | succ n ihn =>
    intro p hp
    refine v_RL_sort_54 ⟨⟨by omega, by omega⟩, fun hc => by omega, fun _ => ⟨⟨by omega, by omega⟩, ?_⟩⟩
    rw [h60 p (by omega)]
    have hz := ihn (p + 1) (by omega)
    refine ⟨fun hc => ?_, fun hc => ?_⟩
    · have e : mvN o (p + 1) = mvN o p := by show mvN o p + _ = _; rw [if_pos (by omega)]; omega
      rw [e] at hz
      exact hz
    · have e : mvN o (p + 1) = mvN o p + 1 := by show mvN o p + _ = _; rw [if_neg (by omega)]
      rw [e] at hz
      exact hz
/-- the ranks of the rows of a table by a leaf -/
def rkT (D : Int → Int) (t : Int) (k : Nat) (d : Int) (r : Nat) : Nat := rkD (fun r => (valD D t r k).toInt) d r (tNr D t).toNat
def soL (D : Int → Int) (t : Int) (k : Nat) (d : Int) : List ((Int × Nat) × Int64) := roLs (vvD D t) (rkT D t k d) (gV (tG D t)).length (tNr D t).toNat
theorem X_sort {t k d : Int} (hA : okA D) (hH : okHs H) (h : cRel s D H T) (ht : rng t) (hk : rng k) (hd : d = 0 ∨ d = 1) (k1 : ¬ hasLf D t k → Q (rT 2) (zbump s)) (k2 : hasLf D t k → ∀ u, frm clsC s u → cRel u (seqW D t D (soL D t k.toNat d)) (pushH H D) T → Q (rI (mvN (rkT D t k.toNat d) (tNr D t).toNat)) u) : wp S 146 0 [(0, rf 2), (1, iv t), (2, iv k), (3, iv d)] [] s Q := by
  refine v_RL_sort_0 ⟨ht, hk, (c_live hA h t).2, fun hc => ?_, fun hc => k1 fun hh => hc ((c_leaf hA h t k).mpr hh)⟩
  have h1 := (c_leaf hA h t k).mp hc
  have hv := h1.1
  have h12 := (isLv_ok hA hv).2.2.1
  have hkn : k = (k.toNat : Int) := by have := h1.2.1; omega
  have hkl : k.toNat < (gV (tG D t)).length := by have := h1.2.2; omega
  refine X_save hA hH h fun w hfw hcw => zkU_U (X_openView hA hv hcw.1 hcw.2.1 fun u hfu hou => zkU_U ?_)
  rw [hkn]
  refine X_orderRows hA hv hou hkl hd fun x hfx o hord hcl => zkU_U ?_
  have hin : ∀ q : Nat, (q : Int) < tNr D t → (o q : Int) < tNr D t := fun q hq => by have := hord.1 q (by omega); omega
  refine X_sort_24 (o := o) hA hv hin (gV (tG D t)).length 0 x (by omega) (vOpen_S hA hv hou hfx) (fun q hq => (hcl q (by omega)).1) fun y hfy hoy hy6 => ?_
  have hLp := sort_perm (Vv := vvD D t) (m := (gV (tG D t)).length) hord
  have hLi : ∀ p ∈ coLs (vvD D t) o (tNr D t).toNat (gV (tG D t)).length, inP D t p.1 := fun p hp => by
    obtain ⟨q, l, hq, hl, rfl⟩ := coLs_mem.mp hp
    exact ⟨⟨by show (0 : Int) ≤ q; omega, by show (q : Int) < _; omega⟩, hl⟩
  have heq : seqW D t D (coLs (vvD D t) o (tNr D t).toNat (gV (tG D t)).length) = seqW D t D (soL D t k.toNat d) := seq_perm hA hv hLi (fun p hp q hq he => by
    obtain ⟨a, b, ha, hb, rfl⟩ := coLs_mem.mp hp
    obtain ⟨a', b', ha', hb', rfl⟩ := coLs_mem.mp hq
    have e1 : (a : Int) = (a' : Int) := congrArg Prod.fst he
    have e2 : b = b' := congrArg Prod.snd he
    have e3 : a = a' := by omega
    subst e3
    subst e2
    rfl) hLp
  have hw := seq_okA hA hv hLi
  have hmv : mvN o (tNr D t).toNat = mvN (rkT D t k.toNat d) (tNr D t).toNat := mvN_congr _ fun q hq => by
    constructor
    · intro hoq
      have hz := rk_ord hord hq
      rw [hoq] at hz
      exact hz
    · intro hrq
      have hz := (ord_rk hord hq).2
      have hrq' : rkD (fun r => (valD D t r k.toNat).toInt) d q (tNr D t).toNat = q := hrq
      rw [hrq'] at hz
      exact hz
  refine X_sort_54 (D := D) (t := t) (o := o) rfl h12 (vOpen_rows hA hv hLi hoy).1 hy6 ?_ (tNr D t).toNat 0 (by omega)
  rw [hmv]
  refine k2 h1 y (frm_trans hfw (frm_trans (frm_mono hfu fun a ha => by unfold clsC; omega) (frm_trans (frm_mono hfx fun a ha => by unfold clsC; omega) (frm_mono hfy fun a ha => by unfold cS at ha; unfold clsC; omega)))) ?_
  have hcu := cPre_fr hcw hA.1 (okHs_H (okHs_push hH hA)) hfu fun a ha => by unfold cK at ha; omega
  rw [← heq]
  exact cPre_Rel (cPre_memP hcu hA.1 (okHs_H (okHs_push hH hA)) (frm_trans (P := cS) (frm_mono hfx fun a ha => by unfold cS; omega) hfy) (fun a ha h6 => by unfold cK at ha; unfold cS; omega) hw.1 hoy.2.2.2)
end OPS23
