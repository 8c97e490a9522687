set_option maxRecDepth 100000 in
theorem zTest1 : (List.range 20).all (fun a => mSh zMe (a + 2) != (0, 7)) = true := by decide +kernel
