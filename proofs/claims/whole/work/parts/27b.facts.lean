/-! ===== the law's start: what it reads of the code ===== -/
set_option maxRecDepth 100000 in
theorem zo_se : (!(mSe (zRun zoa)) && !(mSe (zRun zob))) = true := by decide +kernel
theorem q_276_0 : xfetch 276 0 = some (.new 8, 3) := by decide +kernel
theorem q_276_3 : xfetch 276 3 = some (.dup, 1) := by decide +kernel
theorem q_276_4 : xfetch 276 4 = some (.invokespecial 123, 3) := by decide +kernel
theorem q_276_7 : xfetch 276 7 = some (.astore_n 1, 1) := by decide +kernel
theorem q_276_8 : xfetch 276 8 = some (.new 124, 3) := by decide +kernel
theorem q_276_11 : xfetch 276 11 = some (.dup, 1) := by decide +kernel
theorem q_276_12 : xfetch 276 12 = some (.invokespecial 126, 3) := by decide +kernel
theorem q_276_15 : xfetch 276 15 = some (.astore_n 2, 1) := by decide +kernel
theorem q_276_16 : xfetch 276 16 = some (.iconst 1, 1) := by decide +kernel
theorem q_276_17 : xfetch 276 17 = some (.newarray .long, 2) := by decide +kernel
theorem q_276_19 : xfetch 276 19 = some (.astore_n 3, 1) := by decide +kernel
theorem q_276_20 : xfetch 276 20 = some (.iconst 0, 1) := by decide +kernel
theorem q_276_21 : xfetch 276 21 = some (.istore 4, 2) := by decide +kernel
theorem q_276_c : ∀ pc, pc ∈ [0, 3, 4, 7, 8, 11, 12, 15, 16, 17, 19, 20, 21] → xfind (xcut 276) pc = none := by decide +kernel
theorem q_276_t : xthr (.new 8) 276 0 = none ∧ xthr (.new 124) 276 8 = none := by decide +kernel
theorem q_276_w : (xfind (xnw (xown 276)) 8).map (fun q => q.1) = some 9 ∧ (xfind (xnw (xown 276)) 124).map (fun q => q.1) = some 10 ∧ (xfk 9).length = 13 ∧ (xfk 10).length = 30 := by decide +kernel
theorem q_276_m : ((xfind (xct (xown 276)) 123).map (fun q => (q.1, q.2.1)) = some (2, 0) ∨ (xfind (xct (xown 276)) 123).map (fun q => (q.1, q.2.1)) = some (5, 0)) ∧ ((xfind (xct (xown 276)) 126).map (fun q => (q.1, q.2.1)) = some (2, 176) ∨ (xfind (xct (xown 276)) 126).map (fun q => (q.1, q.2.1)) = some (5, 176)) := by decide +kernel
theorem q_276_n : xnp 0 = 0 ∧ xnp 176 = 0 ∧ 1 ≤ xnL 0 ∧ 1 ≤ xnL 176 ∧ xrk 0 + 1 ≤ xrk 276 ∧ xrk 176 + 1 ≤ xrk 276 ∧ 5 ≤ xnL 276 ∧ xoi (xown 276) = none := by decide +kernel
