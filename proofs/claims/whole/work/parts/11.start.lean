/-! ===== the law's start: what the Statement gives of it ===== -/
/-- the reader's memory at the start -/
def xM0 : xM := ((false, 2, 0, 0), fun _ => (0, 0), fun _ _ => 0, fun _ _ => 0, fun _ _ => none)
def xad (b t B : Nat) : Nat → Nat := fun i => if i = 0 then b else if i = 1 then t else B + (i - 2)
theorem xad_ok {b t B : Nat} (hb : b < B) (ht : t < B) (hne : b ≠ t) : xAd (xad b t B) (fun q => B ≤ q) := by
  refine ⟨fun i j h => ?_, fun i h => ?_, ?_, ?_, fun i h => ?_⟩
  · unfold xad at h
    split at h <;> split at h <;> (try split at h) <;> (try split at h) <;> omega
  · show B ≤ xad b t B i
    unfold xad
    rw [if_neg (by omega), if_neg (by omega)]
    omega
  · show ¬ B ≤ xad b t B 0
    unfold xad
    rw [if_pos rfl]
    omega
  · show ¬ B ≤ xad b t B 1
    unfold xad
    rw [if_neg (by decide), if_pos rfl]
    omega
  · unfold xad
    rw [if_neg (by omega), if_neg (by omega), if_neg (by omega), if_neg (by omega)]
    omega
theorem xgiven {args : Array Value} {s : State} (h : (Jvm.Cond.and given_1 narrow_1).before args s = true) (i : Nat) {w : Cond} (hw : (flatC (Jvm.Cond.and given_1 narrow_1))[i]? = some w) : w.before args s = true := flat_of_before _ h w (List.mem_of_getElem? hw)
def xplain : Term := .static "RecordLayouts" "PLAIN_BYTES" "[I"
set_option maxRecDepth 100000 in
theorem xgv_arr : (flatC (Jvm.Cond.and given_1 narrow_1))[7]? = some (.arrayOf xplain .int) := by decide +kernel
set_option maxRecDepth 100000 in
theorem xgv_len : (flatC (Jvm.Cond.and given_1 narrow_1))[8]? = some (.eq (.length xplain) (.int 8)) := by decide +kernel
set_option maxRecDepth 100000 in
theorem xgv_el : ∀ j, j < 8 → (flatC (Jvm.Cond.and given_1 narrow_1))[9 + j]? = some (.eq (.elem xplain (.int (Int32.ofNat j))) (.int (xtab j))) := by decide +kernel
set_option maxRecDepth 100000 in
theorem xgv_un : (flatC (Jvm.Cond.and given_1 narrow_1))[4]? = some (.isRef (.static Bundle.tN "UNASSIGNED_STACK" Bundle.steD)) := by decide +kernel
set_option maxRecDepth 100000 in
theorem xgv_su : (flatC (Jvm.Cond.and given_1 narrow_1))[5]? = some (.isRef (.static Bundle.tN "SUPPRESSED_SENTINEL" Bundle.listD)) := by decide +kernel
set_option maxRecDepth 100000 in
theorem xgv_ne : (flatC (Jvm.Cond.and given_1 narrow_1))[918]? = some (.not (.eq (.arg 0) xplain)) := by decide +kernel
theorem xk_ov1 : Jvm.Cond.arrayOver (.object (xclsN 1)) ∈ kxT := xk 1 37 rfl rfl
theorem xk_ov4 : Jvm.Cond.arrayOver (.object (xclsN 4)) ∈ kxT := xk 1 128 rfl rfl
theorem xk_ov5 : Jvm.Cond.arrayOver (.object (xclsN 5)) ∈ kxT := xk 1 129 rfl rfl
theorem xk_ov6 : Jvm.Cond.arrayOver (.object (xclsN 6)) ∈ kxT := xk 1 39 rfl rfl
theorem xl_un : Jvm.Cond.laysStatic Bundle.tN "UNASSIGNED_STACK" Bundle.steD ∈ lw_tbl := xlc_in 3 _ (List.mem_of_getElem? (i := 24) rfl)
theorem xl_su : Jvm.Cond.laysStatic Bundle.tN "SUPPRESSED_SENTINEL" Bundle.listD ∈ lw_tbl := xlc_in 3 _ (List.mem_of_getElem? (i := 26) rfl)
theorem xl_plain : Jvm.Cond.laysStatic "RecordLayouts" "PLAIN_BYTES" "[I" ∈ lw_tbl := xlc_in 3 _ (List.mem_of_getElem? (i := 115) rfl)
theorem xl_own : Jvm.Cond.initialized "RecordLayouts" ∈ lw_tbl := xlc_in 1 _ (List.mem_of_getElem? (i := 1) rfl)
theorem xl_thr : Jvm.Cond.initialized Bundle.tN ∈ lw_tbl := xlc_in 1 _ (List.mem_of_getElem? (i := 12) rfl)
theorem xinst_ok {k : Nat} (hk : k < 11) : Jvm.Cond.instantiable (xclsN k) (xfk k).length ∈ lw_tbl := by
  match k, hk with
  | 0, _ => exact xlc_in 1 _ (List.mem_of_getElem? (i := 157) rfl)
  | 1, _ => exact xlc_in 1 _ (List.mem_of_getElem? (i := 40) rfl)
  | 2, _ => exact xlc_in 2 _ (List.mem_of_getElem? (i := 6) rfl)
  | 3, _ => exact xlc_in 1 _ (List.mem_of_getElem? (i := 230) rfl)
  | 4, _ => exact xlc_in 2 _ (List.mem_of_getElem? (i := 0) rfl)
  | 5, _ => exact xlc_in 1 _ (List.mem_of_getElem? (i := 31) rfl)
  | 6, _ => exact xlc_in 1 _ (List.mem_of_getElem? (i := 76) rfl)
  | 7, _ => exact xlc_in 1 _ (List.mem_of_getElem? (i := 131) rfl)
  | 8, _ => exact xlc_in 1 _ (List.mem_of_getElem? (i := 187) rfl)
  | 9, _ => exact xlc_in 1 _ (List.mem_of_getElem? (i := 23) rfl)
  | 10, _ => exact xlc_in 5 _ (List.mem_of_getElem? (i := 183) rfl)
set_option maxRecDepth 100000 in
theorem xnc_01 : (flatC (Jvm.Cond.and given_1 narrow_1))[41]? = some (.not (.castable (xen 0) (xen 1))) := by decide +kernel
set_option maxRecDepth 100000 in
theorem xnc_02 : (flatC (Jvm.Cond.and given_1 narrow_1))[54]? = some (.not (.castable (xen 0) (xen 2))) := by decide +kernel
set_option maxRecDepth 100000 in
theorem xnc_10 : (flatC (Jvm.Cond.and given_1 narrow_1))[28]? = some (.not (.castable (xen 1) (xen 0))) := by decide +kernel
set_option maxRecDepth 100000 in
theorem xnc_12 : (flatC (Jvm.Cond.and given_1 narrow_1))[55]? = some (.not (.castable (xen 1) (xen 2))) := by decide +kernel
set_option maxRecDepth 100000 in
theorem xnc_20 : (flatC (Jvm.Cond.and given_1 narrow_1))[29]? = some (.not (.castable (xen 2) (xen 0))) := by decide +kernel
set_option maxRecDepth 100000 in
theorem xnc_21 : (flatC (Jvm.Cond.and given_1 narrow_1))[42]? = some (.not (.castable (xen 2) (xen 1))) := by decide +kernel
theorem xsr_104 : Jvm.Cond.stringRef RX9 104 "the name is out of range or taken" ∈ lw_tbl := xlc_in 3 _ (List.mem_of_getElem? (i := 173) rfl)
set_option maxRecDepth 100000 in
theorem xse_104 : (flatC (Jvm.Cond.and given_1 narrow_1))[201]? = some (.exactly (.string RX9 104) "java/lang/String") := by decide +kernel
theorem xsr_113 : Jvm.Cond.stringRef RX9 113 "no field of the record can have this type" ∈ lw_tbl := xlc_in 3 _ (List.mem_of_getElem? (i := 179) rfl)
set_option maxRecDepth 100000 in
theorem xse_113 : (flatC (Jvm.Cond.and given_1 narrow_1))[238]? = some (.exactly (.string RX9 113) "java/lang/String") := by decide +kernel
theorem xsr_118 : Jvm.Cond.stringRef RX9 118 "the count is out of range" ∈ lw_tbl := xlc_in 3 _ (List.mem_of_getElem? (i := 180) rfl)
set_option maxRecDepth 100000 in
theorem xse_118 : (flatC (Jvm.Cond.and given_1 narrow_1))[283]? = some (.exactly (.string RX9 118) "java/lang/String") := by decide +kernel
theorem xsr_139 : Jvm.Cond.stringRef RX9 139 "the record can take no such field" ∈ lw_tbl := xlc_in 3 _ (List.mem_of_getElem? (i := 185) rfl)
set_option maxRecDepth 100000 in
theorem xse_139 : (flatC (Jvm.Cond.and given_1 narrow_1))[312]? = some (.exactly (.string RX9 139) "java/lang/String") := by decide +kernel
theorem xsr_159 : Jvm.Cond.stringRef RX9 159 "there is no such field" ∈ lw_tbl := xlc_in 3 _ (List.mem_of_getElem? (i := 205) rfl)
set_option maxRecDepth 100000 in
theorem xse_159 : (flatC (Jvm.Cond.and given_1 narrow_1))[381]? = some (.exactly (.string RX9 159) "java/lang/String") := by decide +kernel
theorem xsr_198 : Jvm.Cond.stringRef RX9 198 "there is no such position" ∈ lw_tbl := xlc_in 4 _ (List.mem_of_getElem? (i := 61) rfl)
set_option maxRecDepth 100000 in
theorem xse_198 : (flatC (Jvm.Cond.and given_1 narrow_1))[432]? = some (.exactly (.string RX9 198) "java/lang/String") := by decide +kernel
theorem xsr_203 : Jvm.Cond.stringRef RX9 203 "the value is no byte of a text" ∈ lw_tbl := xlc_in 4 _ (List.mem_of_getElem? (i := 69) rfl)
set_option maxRecDepth 100000 in
theorem xse_203 : (flatC (Jvm.Cond.and given_1 narrow_1))[461]? = some (.exactly (.string RX9 203) "java/lang/String") := by decide +kernel
theorem xsr_208 : Jvm.Cond.stringRef RX9 208 "the text is full" ∈ lw_tbl := xlc_in 4 _ (List.mem_of_getElem? (i := 70) rfl)
set_option maxRecDepth 100000 in
theorem xse_208 : (flatC (Jvm.Cond.and given_1 narrow_1))[495]? = some (.exactly (.string RX9 208) "java/lang/String") := by decide +kernel
theorem xsr_227 : Jvm.Cond.stringRef RX9 227 "the number of rows is out of range" ∈ lw_tbl := xlc_in 4 _ (List.mem_of_getElem? (i := 131) rfl)
set_option maxRecDepth 100000 in
theorem xse_227 : (flatC (Jvm.Cond.and given_1 narrow_1))[515]? = some (.exactly (.string RX9 227) "java/lang/String") := by decide +kernel
theorem xsr_242 : Jvm.Cond.stringRef RX9 242 "there are all tables already" ∈ lw_tbl := xlc_in 4 _ (List.mem_of_getElem? (i := 149) rfl)
set_option maxRecDepth 100000 in
theorem xse_242 : (flatC (Jvm.Cond.and given_1 narrow_1))[639]? = some (.exactly (.string RX9 242) "java/lang/String") := by decide +kernel
theorem xsr_254 : Jvm.Cond.stringRef RX9 254 "there is no room" ∈ lw_tbl := xlc_in 4 _ (List.mem_of_getElem? (i := 162) rfl)
set_option maxRecDepth 100000 in
theorem xse_254 : (flatC (Jvm.Cond.and given_1 narrow_1))[671]? = some (.exactly (.string RX9 254) "java/lang/String") := by decide +kernel
theorem xsr_314 : Jvm.Cond.stringRef RX9 314 "the value is no byte" ∈ lw_tbl := xlc_in 5 _ (List.mem_of_getElem? (i := 36) rfl)
set_option maxRecDepth 100000 in
theorem xse_314 : (flatC (Jvm.Cond.and given_1 narrow_1))[769]? = some (.exactly (.string RX9 314) "java/lang/String") := by decide +kernel
theorem xsr_354 : Jvm.Cond.stringRef RX9 354 "there is no such relation" ∈ lw_tbl := xlc_in 5 _ (List.mem_of_getElem? (i := 99) rfl)
set_option maxRecDepth 100000 in
theorem xse_354 : (flatC (Jvm.Cond.and given_1 narrow_1))[793]? = some (.exactly (.string RX9 354) "java/lang/String") := by decide +kernel
theorem xsr_377 : Jvm.Cond.stringRef RX9 377 "no state is saved" ∈ lw_tbl := xlc_in 5 _ (List.mem_of_getElem? (i := 181) rfl)
set_option maxRecDepth 100000 in
theorem xse_377 : (flatC (Jvm.Cond.and given_1 narrow_1))[897]? = some (.exactly (.string RX9 377) "java/lang/String") := by decide +kernel
theorem xsr_395 : Jvm.Cond.stringRef RX9 395 "there is no such pack" ∈ lw_tbl := xlc_in 3 _ (List.mem_of_getElem? (i := 38) rfl)
set_option maxRecDepth 100000 in
theorem xse_395 : (flatC (Jvm.Cond.and given_1 narrow_1))[116]? = some (.exactly (.string RX9 395) "java/lang/String") := by decide +kernel
theorem xsr_397 : Jvm.Cond.stringRef RX9 397 "there are all records already" ∈ lw_tbl := xlc_in 3 _ (List.mem_of_getElem? (i := 77) rfl)
set_option maxRecDepth 100000 in
theorem xse_397 : (flatC (Jvm.Cond.and given_1 narrow_1))[141]? = some (.exactly (.string RX9 397) "java/lang/String") := by decide +kernel
theorem xsr_399 : Jvm.Cond.stringRef RX9 399 "there is no such record" ∈ lw_tbl := xlc_in 3 _ (List.mem_of_getElem? (i := 162) rfl)
set_option maxRecDepth 100000 in
theorem xse_399 : (flatC (Jvm.Cond.and given_1 narrow_1))[174]? = some (.exactly (.string RX9 399) "java/lang/String") := by decide +kernel
theorem xsr_401 : Jvm.Cond.stringRef RX9 401 "there is no such leaf" ∈ lw_tbl := xlc_in 3 _ (List.mem_of_getElem? (i := 217) rfl)
set_option maxRecDepth 100000 in
theorem xse_401 : (flatC (Jvm.Cond.and given_1 narrow_1))[407]? = some (.exactly (.string RX9 401) "java/lang/String") := by decide +kernel
theorem xsr_403 : Jvm.Cond.stringRef RX9 403 "the record has no fields" ∈ lw_tbl := xlc_in 4 _ (List.mem_of_getElem? (i := 144) rfl)
set_option maxRecDepth 100000 in
theorem xse_403 : (flatC (Jvm.Cond.and given_1 narrow_1))[611]? = some (.exactly (.string RX9 403) "java/lang/String") := by decide +kernel
theorem xsr_405 : Jvm.Cond.stringRef RX9 405 "there is no such information" ∈ lw_tbl := xlc_in 3 _ (List.mem_of_getElem? (i := 197) rfl)
set_option maxRecDepth 100000 in
theorem xse_405 : (flatC (Jvm.Cond.and given_1 narrow_1))[349]? = some (.exactly (.string RX9 405) "java/lang/String") := by decide +kernel
theorem xsr_407 : Jvm.Cond.stringRef RX9 407 "there is no such layout" ∈ lw_tbl := xlc_in 4 _ (List.mem_of_getElem? (i := 135) rfl)
set_option maxRecDepth 100000 in
theorem xse_407 : (flatC (Jvm.Cond.and given_1 narrow_1))[553]? = some (.exactly (.string RX9 407) "java/lang/String") := by decide +kernel
theorem xsr_409 : Jvm.Cond.stringRef RX9 409 "there is no such byte order" ∈ lw_tbl := xlc_in 4 _ (List.mem_of_getElem? (i := 139) rfl)
set_option maxRecDepth 100000 in
theorem xse_409 : (flatC (Jvm.Cond.and given_1 narrow_1))[580]? = some (.exactly (.string RX9 409) "java/lang/String") := by decide +kernel
theorem xsr_411 : Jvm.Cond.stringRef RX9 411 "there is no such table" ∈ lw_tbl := xlc_in 4 _ (List.mem_of_getElem? (i := 178) rfl)
set_option maxRecDepth 100000 in
theorem xse_411 : (flatC (Jvm.Cond.and given_1 narrow_1))[691]? = some (.exactly (.string RX9 411) "java/lang/String") := by decide +kernel
theorem xsr_413 : Jvm.Cond.stringRef RX9 413 "there is no such row" ∈ lw_tbl := xlc_in 4 _ (List.mem_of_getElem? (i := 201) rfl)
set_option maxRecDepth 100000 in
theorem xse_413 : (flatC (Jvm.Cond.and given_1 narrow_1))[717]? = some (.exactly (.string RX9 413) "java/lang/String") := by decide +kernel
theorem xsr_415 : Jvm.Cond.stringRef RX9 415 "the first row is behind the last one" ∈ lw_tbl := xlc_in 5 _ (List.mem_of_getElem? (i := 125) rfl)
set_option maxRecDepth 100000 in
theorem xse_415 : (flatC (Jvm.Cond.and given_1 narrow_1))[822]? = some (.exactly (.string RX9 415) "java/lang/String") := by decide +kernel
theorem xsr_417 : Jvm.Cond.stringRef RX9 417 "there is no such size of a line" ∈ lw_tbl := xlc_in 5 _ (List.mem_of_getElem? (i := 129) rfl)
set_option maxRecDepth 100000 in
theorem xse_417 : (flatC (Jvm.Cond.and given_1 narrow_1))[862]? = some (.exactly (.string RX9 417) "java/lang/String") := by decide +kernel
theorem xsr_419 : Jvm.Cond.stringRef RX9 419 "there is no such address" ∈ lw_tbl := xlc_in 5 _ (List.mem_of_getElem? (i := 28) rfl)
set_option maxRecDepth 100000 in
theorem xse_419 : (flatC (Jvm.Cond.and given_1 narrow_1))[741]? = some (.exactly (.string RX9 419) "java/lang/String") := by decide +kernel
theorem xstr_all {args : Array Value} {s : State} (hts : ∀ w ∈ lw_tbl, w.before args s = true) (hgv : (Jvm.Cond.and given_1 narrow_1).before args s = true) : ∀ z ∈ xth, (Cond.stringRef RX9 z.2.2.2.2.2.1 z.2.2.2.2.2.2.2).before args s = true ∧ (Cond.exactly (.string RX9 z.2.2.2.2.2.1) "java/lang/String").before args s = true := List.forall_mem_cons.mpr ⟨⟨hts _ xsr_395, xgiven hgv _ xse_395⟩, List.forall_mem_cons.mpr ⟨⟨hts _ xsr_397, xgiven hgv _ xse_397⟩, List.forall_mem_cons.mpr ⟨⟨hts _ xsr_104, xgiven hgv _ xse_104⟩, List.forall_mem_cons.mpr ⟨⟨hts _ xsr_113, xgiven hgv _ xse_113⟩, List.forall_mem_cons.mpr ⟨⟨hts _ xsr_118, xgiven hgv _ xse_118⟩, List.forall_mem_cons.mpr ⟨⟨hts _ xsr_139, xgiven hgv _ xse_139⟩, List.forall_mem_cons.mpr ⟨⟨hts _ xsr_399, xgiven hgv _ xse_399⟩, List.forall_mem_cons.mpr ⟨⟨hts _ xsr_405, xgiven hgv _ xse_405⟩, List.forall_mem_cons.mpr ⟨⟨hts _ xsr_159, xgiven hgv _ xse_159⟩, List.forall_mem_cons.mpr ⟨⟨hts _ xsr_401, xgiven hgv _ xse_401⟩, List.forall_mem_cons.mpr ⟨⟨hts _ xsr_198, xgiven hgv _ xse_198⟩, List.forall_mem_cons.mpr ⟨⟨hts _ xsr_203, xgiven hgv _ xse_203⟩, List.forall_mem_cons.mpr ⟨⟨hts _ xsr_208, xgiven hgv _ xse_208⟩, List.forall_mem_cons.mpr ⟨⟨hts _ xsr_227, xgiven hgv _ xse_227⟩, List.forall_mem_cons.mpr ⟨⟨hts _ xsr_242, xgiven hgv _ xse_242⟩, List.forall_mem_cons.mpr ⟨⟨hts _ xsr_254, xgiven hgv _ xse_254⟩, List.forall_mem_cons.mpr ⟨⟨hts _ xsr_407, xgiven hgv _ xse_407⟩, List.forall_mem_cons.mpr ⟨⟨hts _ xsr_409, xgiven hgv _ xse_409⟩, List.forall_mem_cons.mpr ⟨⟨hts _ xsr_403, xgiven hgv _ xse_403⟩, List.forall_mem_cons.mpr ⟨⟨hts _ xsr_411, xgiven hgv _ xse_411⟩, List.forall_mem_cons.mpr ⟨⟨hts _ xsr_413, xgiven hgv _ xse_413⟩, List.forall_mem_cons.mpr ⟨⟨hts _ xsr_419, xgiven hgv _ xse_419⟩, List.forall_mem_cons.mpr ⟨⟨hts _ xsr_314, xgiven hgv _ xse_314⟩, List.forall_mem_cons.mpr ⟨⟨hts _ xsr_254, xgiven hgv _ xse_254⟩, List.forall_mem_cons.mpr ⟨⟨hts _ xsr_354, xgiven hgv _ xse_354⟩, List.forall_mem_cons.mpr ⟨⟨hts _ xsr_415, xgiven hgv _ xse_415⟩, List.forall_mem_cons.mpr ⟨⟨hts _ xsr_417, xgiven hgv _ xse_417⟩, List.forall_mem_cons.mpr ⟨⟨hts _ xsr_377, xgiven hgv _ xse_377⟩, fun _ h => absurd h List.not_mem_nil⟩⟩⟩⟩⟩⟩⟩⟩⟩⟩⟩⟩⟩⟩⟩⟩⟩⟩⟩⟩⟩⟩⟩⟩⟩⟩⟩⟩
theorem xclasses {args : Array Value} {s : State} (hts : ∀ w ∈ lw_tbl, w.before args s = true) : ∃ (dC : Nat → ClassId) (dI : Nat → Nat → Nat), ∀ (k : Nat) (q : vw_C), vwCl[k]? = some q → u_Kn s q.1 q.2.1 q.2.2 (dC k) (dI k) := by
  have h : ∀ k, k < 11 → ∃ (cC : ClassId) (iS : Nat → Nat), ∀ q, vwCl[k]? = some q → u_Kn s q.1 q.2.1 q.2.2 cC iS := by
    intro k hk
    have h1 : ∃ (cC : ClassId) (iS : Nat → Nat), u_Kn s (xclsN k) (xfd k) (xfk k).length cC iS := by
      exact u_known (ws := lw_tbl) (n := (xfk k).length) hts (fun w hw => (List.mem_filter.mp (xlays_in hk w hw)).1) (hts _ (xinst_ok hk))
    obtain ⟨cC, iS, h2⟩ := h1
    exact ⟨cC, iS, fun q hq => by rw [xclassT hk] at hq; cases hq; exact h2⟩
  have h' : ∀ k, ∃ z : ClassId × (Nat → Nat), k < 11 → ∀ q, vwCl[k]? = some q → u_Kn s q.1 q.2.1 q.2.2 z.1 z.2 := fun k => by
    by_cases hk : k < 11
    · obtain ⟨cC, iS, h2⟩ := h k hk
      exact ⟨(cC, iS), fun _ => h2⟩
    · exact ⟨(0, fun _ => 0), fun z => absurd z hk⟩
  refine ⟨fun k => (h' k).choose.1, fun k => (h' k).choose.2, fun k q hq => (h' k).choose_spec ?_ q hq⟩
  have := (List.getElem?_eq_some_iff.mp hq).1
  exact this
theorem xarrays {s : State} (hts : ∀ w ∈ kxT, va_Nw w s) : ∃ dA : Nat → ClassId, ∀ k ∈ xkinds, ArrOfT s (dA k) (xaty k) ∧ va_RA s (dA k) (xaty k) := by
  have prim : ∀ ty : FieldType, (∀ C, ty ≠ .object C) → (Cond.arrayClass ty).before #[] s = true → ∃ c, ArrOfT s c ty ∧ va_RA s c ty := by
    intro ty hno h
    obtain ⟨c, k, comp, h1, h2, h3⟩ := Cond.arrayClass_spec h
    refine ⟨c, fun n z => ⟨(fun k h => by cases h), k, h2, comp, h3⟩, ?_⟩
    cases ty with
    | object C => exact absurd rfl (hno C)
    | _ => exact h1
  have obj : ∀ C : String, (Cond.arrayOver (.object C)).before #[] s = true → ∃ c, ArrOfT s c (.object C) ∧ va_RA s c (.object C) := by
    intro C h
    obtain ⟨comp, c, k, h1, h2, h3, h4, h5⟩ := Cond.arrayOver_spec h
    exact ⟨c, fun n z => ⟨(fun k h => by cases h), k, h3, comp, h4⟩, k, comp, h3, h4, h1, h5⟩
  have h : ∀ k, ∃ c, k ∈ xkinds → ArrOfT s c (xaty k) ∧ va_RA s c (xaty k) := by
    intro k
    by_cases hk : k ∈ xkinds
    · simp only [xkinds, List.mem_cons, List.not_mem_nil, or_false] at hk
      rcases hk with rfl | rfl | rfl | rfl | rfl | rfl | rfl
      · obtain ⟨c, h⟩ := prim .int (fun C h => by cases h) (hts _ xk_arrI)
        exact ⟨c, fun _ => h⟩
      · obtain ⟨c, h⟩ := prim .long (fun C h => by cases h) (hts _ xk_arrL)
        exact ⟨c, fun _ => h⟩
      · obtain ⟨c, h⟩ := prim .byte (fun C h => by cases h) (hts _ xk_arrB)
        exact ⟨c, fun _ => h⟩
      · obtain ⟨c, h⟩ := obj (xclsN 1) (hts _ xk_ov1)
        exact ⟨c, fun _ => h⟩
      · obtain ⟨c, h⟩ := obj (xclsN 4) (hts _ xk_ov4)
        exact ⟨c, fun _ => h⟩
      · obtain ⟨c, h⟩ := obj (xclsN 5) (hts _ xk_ov5)
        exact ⟨c, fun _ => h⟩
      · obtain ⟨c, h⟩ := obj (xclsN 6) (hts _ xk_ov6)
        exact ⟨c, fun _ => h⟩
    · exact ⟨0, fun z => absurd z hk⟩
  exact ⟨fun k => (h k).choose, fun k hk => (h k).choose_spec hk⟩
theorem xKK_start {s : State} {b L : Nat} {xs : Nat → Int32} (hts : ∀ w ∈ lw_tbl, w.before #[Value.ref b] s = true) (hX : va_X b L xs s s.heap) (hbl : b < s.heap.size) (hgv : (Jvm.Cond.and given_1 narrow_1).before #[Value.ref b] s = true) : ∃ (D : va_G) (dA : Nat → ClassId) (t : Nat), t < s.heap.size ∧ b ≠ t ∧ xKK D dA (xad b t s.heap.size) (fun q => s.heap.size ≤ q) (L, xs) s := by
  have hNw : ∀ w ∈ kxT, va_Nw w s := fun w hw => by
    obtain ⟨h1, h2⟩ := List.mem_filter.mp hw
    have h3 := hts w h1
    unfold kxOk at h2
    rw [Bool.or_eq_true] at h2
    rcases h2 with h2 | h2
    · exact word_at (State.WarmedH.refl s) (good_of_word h2) h3
    · split at h2
      · exact va_Nw.of rfl h3
      · exact va_Nw.of rfl h3
      · exact va_Nw.of rfl h3
      · exact h3
      · cases h2
  obtain ⟨dC, dI, hK⟩ := xclasses hts
  obtain ⟨dA, hA⟩ := xarrays hNw
  have hA0 : ∀ a : Nat, a < s.heap.size → ¬ (fun q => s.heap.size ≤ q) a := fun a h => by show ¬ _ ≤ a; omega
  obtain ⟨t, ht, hT⟩ := va_Tof (tm := xplain) (ty := .int) (N := 8) (f := fun j => .int (xtab j)) (by decide) (xgiven hgv 7 xgv_arr) (va_eqt (xgiven hgv 8 xgv_len)) (fun j hj => va_eqt (xgiven hgv (9 + j) (xgv_el j hj))) hA0
  have htl : t < s.heap.size := by
    obtain ⟨cell, h1, -⟩ := hT
    exact (Array.getElem?_eq_some_iff.mp h1).1
  have hne : b ≠ t := by
    intro e
    subst e
    have h := xgiven hgv 918 xgv_ne
    simp only [Cond.before, Cond.holds, Cond.value, ht] at h
    simp [Term.eval] at h
  refine ⟨(dC, dI), dA, t, htl, hne, ⟨hK, fun k q hq => ?_⟩, hNw, ⟨hX, hbl⟩, hT, ?_, ?_, ?_, ?_, ?_, fun q h => h⟩
  · unfold xtys at hq
    rw [List.getElem?_map] at hq
    obtain ⟨z, hz, rfl⟩ := Option.map_eq_some_iff.mp hq
    exact hA z (List.mem_of_getElem? hz)
  · exact va_Zof (hts _ xl_plain) (hts _ xl_own) ht hA0
  · exact vx_Zqof (hts _ xl_un) (hts _ xl_thr) (xgiven hgv 4 xgv_un) hA0
  · exact vx_Zqof (hts _ xl_su) (hts _ xl_thr) (xgiven hgv 5 xgv_su) hA0
  · intro z hz
    have hs : (Cond.stringRef RX9 z.2.2.2.2.2.1 z.2.2.2.2.2.2.2).before #[Value.ref b] s = true ∧ (Cond.exactly (.string RX9 z.2.2.2.2.2.1) "java/lang/String").before #[Value.ref b] s = true := xstr_all hts hgv z hz
    obtain ⟨a, c, cell, k, h1, -⟩ := Cond.exactly_spec hs.2
    exact ⟨a, vk_R.of hs.1 h1⟩
  · intro i j hi hj hij
    match i, j, hi, hj, hij with
    | 0, 1, _, _, _ => exact va_Nc.of (xgiven hgv _ xnc_01)
    | 0, 2, _, _, _ => exact va_Nc.of (xgiven hgv _ xnc_02)
    | 1, 0, _, _, _ => exact va_Nc.of (xgiven hgv _ xnc_10)
    | 1, 2, _, _, _ => exact va_Nc.of (xgiven hgv _ xnc_12)
    | 2, 0, _, _, _ => exact va_Nc.of (xgiven hgv _ xnc_20)
    | 2, 1, _, _, _ => exact va_Nc.of (xgiven hgv _ xnc_21)
    | 0, 0, _, _, h => exact absurd rfl h
    | 1, 1, _, _, h => exact absurd rfl h
    | 2, 2, _, _, h => exact absurd rfl h
/-- the law, if the reader reads it to its end with 1 -/
theorem x_start {p : Program} {e : Env} {s : State} {m : MethodId} {below : List Frame} {meth : Method} {c : Code} (l : Launch) (hflags : l.flags = flags0) {b L : Nat} {xs : Nat → Int32} (C0 : lw_At p s m meth c b L xs)
    (hrun : ∃ (n : Nat) (M : xM), xrun (some (L, xs)) n 276 0 [(0, .ref 0)] [] xM0 = some (.inl (some (.int 1)), M) ∧ mNc M ≤ 601024 ∧ mNs M ≤ 7293034) : W p l e room_1 s m #[Value.ref b] below meth c s.heap [] 0 0 (lw_Z below #[Value.ref b] s) (entryFrame m ([Value.ref b] : List Value).toArray 8) := by
  obtain ⟨hx, hb, hr, hml, hown, hts, hX, hbl, hlocks, hgv⟩ := C0
  obtain ⟨D, dA, t, htl, hne, hKK⟩ := xKK_start hts hX hbl hgv
  obtain ⟨n, M, hrun, hc, hs⟩ := hrun
  have had := xad_ok hbl htl hne
  have hst : l.stackTraces = false := by
    unfold Launch.stackTraces
    rw [hflags]
    decide +kernel
  have C : xC p l room_1 s m #[Value.ref b] meth c D dA (xad b t s.heap.size) (fun q => s.heap.size ≤ q) (L, xs) 276 := ⟨hx, hb, hml, hown, fun w hw => kx_use (hKK.2.1 w hw) (List.mem_filter.mp hw).2 _, hKK, had, hlocks, hr, fun z => absurd z (by decide +kernel), hst, fun _ z => absurd rfl z, fun z => absurd rfl z⟩
  · have key := xSnd_all hst had n 276 0 _ _ _ _ hrun p e room_1 s m #[Value.ref b] below meth c 0 0 601024 7293034 (lw_Z below #[Value.ref b] s) C (by decide) (Nat.zero_le _) (Nat.zero_le _) hc hs hc hs (by decide +kernel) (by decide +kernel) (fun k h => by cases h) ?_
    · have hl := lv_entry ([.ref b]) (n := 8) (Nat.le_of_ble_eq_true rfl)
      rw [lg_entry_eq]
      generalize (lg_sl ([.ref b]) ++ List.replicate (8 - (lg_sl ([.ref b])).length) Slot.unset).toArray = ls at hl ⊢
      exact key s.heap [] ls ⟨fun k q h => by simp [xW, mNx, xM0] at h, Nat.le_refl 2, fun _ => by show _ = xad b t s.heap.size 2; rfl, fun a h1 h2 => by exfalso; have : a < 2 := h2; omega⟩ va_S.rf hl
    · intro ins len pc' lc' st' v hv hd he
      cases hv
      intro H locs ls hR hS hl
      cases ins with
      | ireturn =>
        simp only [xend] at he
        replace he := u_if he
        obtain ⟨rfl, he⟩ := he
        match st', he with
        | [.int x], he =>
          have hx1 : x = 1 := by
            dsimp only at he
            split at he
            · cases he; rfl
            · replace he := (u_if he).2; cases he; rfl
            · cases he
          subst hx1
          refine va_forget (fun q hq => hS.2.2 q hq) ?_
          refine W.widen (k := 601024) (n := 7293034) (by show mNc M - 0 ≤ _; omega) (by show mNs M - 0 ≤ _; omega) ?_
          exact lw_ret hx hb hr hlocks hd
        | [], he => cases he
      | lreturn =>
        simp only [xend] at he
        replace he := (u_if he).2
        split at he <;> cases he
      | areturn =>
        simp only [xend] at he
        replace he := (u_if he).2
        split at he
        · split at he <;> cases he
        · split at he <;> cases he
        · cases he
      | return_ =>
        simp only [xend] at he
        replace he := (u_if he).2
        split at he <;> cases he
      | _ => simp [xend] at he
