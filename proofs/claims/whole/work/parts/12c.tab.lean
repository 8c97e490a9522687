set_option maxRecDepth 100000 in
theorem zMe_now0 : (List.range 256).all (fun j => mI zMe 253 (175 + j) == 0) = true := by decide +kernel
set_option maxRecDepth 100000 in
theorem zMe_now1 : (List.range 256).all (fun j => mI zMe 253 (431 + j) == 0) = true := by decide +kernel
set_option maxRecDepth 100000 in
theorem zMe_now2 : (List.range 256).all (fun j => mI zMe 253 (687 + j) == 0) = true := by decide +kernel
set_option maxRecDepth 100000 in
theorem zMe_now3 : (List.range 256).all (fun j => mI zMe 253 (943 + j) == 0) = true := by decide +kernel
set_option maxRecDepth 100000 in
theorem zMe_mem0 : (List.range 256).all (fun j => mI zMe 6 (0 + j) == 0) = true := by decide +kernel
set_option maxRecDepth 100000 in
theorem zMe_mem1 : (List.range 256).all (fun j => mI zMe 6 (256 + j) == 0) = true := by decide +kernel
set_option maxRecDepth 100000 in
theorem zMe_mem2 : (List.range 256).all (fun j => mI zMe 6 (512 + j) == 0) = true := by decide +kernel
set_option maxRecDepth 100000 in
theorem zMe_mem3 : (List.range 256).all (fun j => mI zMe 6 (768 + j) == 0) = true := by decide +kernel
