/-! ===== what the constructors made, as tables (by program: gen12.py) ===== -/
def zsh : List xSh := [(0, 0), (0, 0), (13, 0), (9, 0), (16, 6), (21, 3), (3, 1024), (5, 0), (1, 8), (1, 8), (1, 8), (5, 0), (1, 8), (1, 8), (1, 8), (5, 0), (1, 8), (1, 8), (1, 8), (5, 0), (1, 8), (1, 8), (1, 8), (5, 0), (1, 8), (1, 8), (1, 8), (5, 0), (1, 8), (1, 8), (1, 8), (10, 0), (10, 0), (10, 0), (19, 6), (20, 4), (11, 0), (5, 0), (1, 8), (1, 8), (1, 8), (3, 80), (4, 0), (1, 8), (1, 8), (1, 8), (1, 8), (1, 4096), (12, 0), (1, 40), (1, 40), (1, 40), (1, 40), (12, 0), (1, 40), (1, 40), (1, 40), (1, 40), (7, 0), (2, 16), (1, 12), (2, 12), (8, 0), (1, 8), (1, 8), (1, 8), (1, 8), (6, 0), (1, 40), (1, 40), (1, 40), (1, 40), (2, 40), (8, 0), (1, 8), (1, 8), (1, 8), (1, 8), (6, 0), (1, 40), (1, 40), (1, 40), (1, 40), (2, 40), (8, 0), (1, 8), (1, 8), (1, 8), (1, 8), (6, 0), (1, 40), (1, 40), (1, 40), (1, 40), (2, 40), (8, 0), (1, 8), (1, 8), (1, 8), (1, 8), (6, 0), (1, 40), (1, 40), (1, 40), (1, 40), (2, 40), (8, 0), (1, 8), (1, 8), (1, 8), (1, 8), (6, 0), (1, 40), (1, 40), (1, 40), (1, 40), (2, 40), (8, 0), (1, 8), (1, 8), (1, 8), (1, 8), (6, 0), (1, 40), (1, 40), (1, 40), (1, 40), (2, 40), (9, 0), (16, 6), (21, 3), (3, 1024), (5, 0), (1, 8), (1, 8), (1, 8), (5, 0), (1, 8), (1, 8), (1, 8), (5, 0), (1, 8), (1, 8), (1, 8), (5, 0), (1, 8), (1, 8), (1, 8), (5, 0), (1, 8), (1, 8), (1, 8), (5, 0), (1, 8), (1, 8), (1, 8), (10, 0), (10, 0), (10, 0), (9, 0), (16, 6), (21, 3), (3, 1024), (5, 0), (1, 8), (1, 8), (1, 8), (5, 0), (1, 8), (1, 8), (1, 8), (5, 0), (1, 8), (1, 8), (1, 8), (5, 0), (1, 8), (1, 8), (1, 8), (5, 0), (1, 8), (1, 8), (1, 8), (5, 0), (1, 8), (1, 8), (1, 8), (10, 0), (10, 0), (10, 0), (9, 0), (16, 6), (21, 3), (3, 1024), (5, 0), (1, 8), (1, 8), (1, 8), (5, 0), (1, 8), (1, 8), (1, 8), (5, 0), (1, 8), (1, 8), (1, 8), (5, 0), (1, 8), (1, 8), (1, 8), (5, 0), (1, 8), (1, 8), (1, 8), (5, 0), (1, 8), (1, 8), (1, 8), (10, 0), (10, 0), (10, 0), (9, 0), (16, 6), (21, 3), (3, 1024), (5, 0), (1, 8), (1, 8), (1, 8), (5, 0), (1, 8), (1, 8), (1, 8), (5, 0), (1, 8), (1, 8), (1, 8), (5, 0), (1, 8), (1, 8), (1, 8), (5, 0), (1, 8), (1, 8), (1, 8), (5, 0), (1, 8), (1, 8), (1, 8), (10, 0), (10, 0), (10, 0), (14, 0), (1, 1199), (1, 4796), (1, 80), (1, 6), (1, 6), (1, 6), (1, 240), (1, 240), (1, 240), (1, 240), (1, 7680), (1, 240), (1, 8), (1, 8), (1, 8), (1, 8), (1, 8), (1, 8), (1, 8), (2, 480), (1, 12), (1, 8192), (2, 1)]
def zxd : List (List (Nat × Nat)) := [[(1, 1), (3, 2), (4, 3), (5, 4), (6, 5)], [(2, 1), (3, 2), (4, 3)], [(1, 1), (2, 2), (3, 3), (4, 4), (5, 5)], [(0, 1)], [(0, 1), (1, 2), (2, 3), (3, 4), (4, 5)], [(1, 1), (2, 2), (3, 3)], [], [(1, 1), (2, 5)], [(7, 1), (8, 2), (9, 3), (10, 4)], [(0, 1), (1, 32), (2, 33), (5, 34), (6, 40), (8, 46), (9, 51), (10, 56), (11, 58), (12, 59)], [(0, 1), (1, 2), (4, 3), (6, 4), (7, 5), (8, 6), (9, 7), (10, 8), (11, 9), (12, 10), (13, 11), (14, 12), (15, 13), (16, 14), (17, 15), (18, 16), (21, 17), (22, 18), (23, 19), (26, 20), (27, 21), (28, 22)]]
def zxe (c : Nat) : Nat × Nat := if c = 1 then (3, 4) else if c = 6 then (26, 1) else if c = 4 then (28, 11) else (93, 31)
def zrv (a k : Nat) : Option Nat := let sh := zsh.getD a (0, 0); if 15 ≤ sh.1 then (if k < sh.2 then some (a + (zxe (sh.1 - 15)).1 + (zxe (sh.1 - 15)).2 * k) else none) else if 4 ≤ sh.1 then (xfind (zxd.getD (sh.1 - 4) []) k).map (fun d => a + d) else none
def zks (a : Nat) : List Nat := let sh := zsh.getD a (0, 0); if 15 ≤ sh.1 then List.range sh.2 else if 4 ≤ sh.1 then (zxd.getD (sh.1 - 4) []).map (fun q => q.1) else []
set_option maxRecDepth 100000 in
theorem zMe_ok : (zOk zoa && (zOk zob && (mNx (zRun zoa) == 252 && (mNx (zRun zob) == 275 && (mNc zMe == 274 && (decide (mNs zMe ≤ 60000) && (List.range 276).all (fun a => mSh zMe a == zsh.getD a (0, 0)))))))) = true := by decide +kernel
set_option maxRecDepth 100000 in
theorem zMe_r0 : (List.range 92).all (fun a => (zks (0 + a)).all (fun k => mR zMe (0 + a) k == zrv (0 + a) k)) = true := by decide +kernel
set_option maxRecDepth 100000 in
theorem zMe_r1 : (List.range 92).all (fun a => (zks (92 + a)).all (fun k => mR zMe (92 + a) k == zrv (92 + a) k)) = true := by decide +kernel
set_option maxRecDepth 100000 in
theorem zMe_r2 : (List.range 92).all (fun a => (zks (184 + a)).all (fun k => mR zMe (184 + a) k == zrv (184 + a) k)) = true := by decide +kernel
theorem zMe_tab : (zOk zoa && (zOk zob && (mNx (zRun zoa) == 252 && (mNx (zRun zob) == 275 && (mNc zMe == 274 && (decide (mNs zMe ≤ 60000) && (List.range 276).all (fun a => mSh zMe a == zsh.getD a (0, 0) && (zks a).all (fun k => mR zMe a k == zrv a k)))))))) = true := by
  have hq0 := zMe_ok
  have hq1 := zMe_r0
  have hq2 := zMe_r1
  have hq3 := zMe_r2
  rw [List.all_eq_true] at hq1 hq2 hq3
  simp only [Bool.and_eq_true] at hq0 ⊢
  refine ⟨hq0.1, hq0.2.1, hq0.2.2.1, hq0.2.2.2.1, hq0.2.2.2.2.1, hq0.2.2.2.2.2.1, ?_⟩
  have hq4 := hq0.2.2.2.2.2.2
  rw [List.all_eq_true] at hq4 ⊢
  intro a hma
  have hlt := List.mem_range.mp hma
  rw [Bool.and_eq_true]
  refine ⟨hq4 a hma, ?_⟩
  rcases (by omega : a < 92 ∨ (92 ≤ a ∧ a < 184) ∨ 184 ≤ a) with hc | hc | hc
  · have hq5 := hq1 a (List.mem_range.mpr hc)
    rw [Nat.zero_add] at hq5
    exact hq5
  · have hq5 := hq2 (a - 92) (List.mem_range.mpr (by omega))
    rw [show 92 + (a - 92) = a by omega] at hq5
    exact hq5
  · have hq5 := hq3 (a - 184) (List.mem_range.mpr (by omega))
    rw [show 184 + (a - 184) = a by omega] at hq5
    exact hq5
set_option maxRecDepth 100000 in
theorem zMe_ints : (mI zMe 3 0 == 0 && (mI zMe 31 0 == 0 && (mI zMe 32 0 == 0 && (mI zMe 33 0 == 0 && (mI zMe 2 3 == 0 && (mI zMe 2 4 == 0 && (mI zMe 2 7 == -1 && (mI zMe 36 0 == 0 && (mI zMe 252 2 == 0 && (mI zMe 252 5 == 0 && ((List.range 157).all (fun j => mI zMe 253 j == 0) && (mI zMe 253 157 == -1 && (mI zMe 253 163 == -1 && (mI zMe 253 169 == -1)))))))))))))) = true := by decide +kernel
