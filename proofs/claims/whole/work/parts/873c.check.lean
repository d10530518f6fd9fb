set_option maxRecDepth 100000 in
theorem ckc_18 : ([224, 225, 226, 227, 228, 229] : List Nat).all ckJ = true := by decide +kernel
set_option maxRecDepth 100000 in
theorem ckc_19 : ([230, 231, 232, 233, 234, 235, 236] : List Nat).all ckJ = true := by decide +kernel
set_option maxRecDepth 100000 in
theorem ckc_20 : ([237, 238, 239, 240] : List Nat).all ckJ = true := by decide +kernel
set_option maxRecDepth 100000 in
theorem ckc_21 : ([241, 242, 243, 244, 245, 246, 247, 248] : List Nat).all ckJ = true := by decide +kernel
set_option maxRecDepth 100000 in
theorem ckc_22 : ([249, 250, 251, 252, 253, 254, 255, 256, 257] : List Nat).all ckJ = true := by decide +kernel
set_option maxRecDepth 100000 in
theorem ckc_23 : ([258, 259, 260, 261, 262, 263, 264] : List Nat).all ckJ = true := by decide +kernel
set_option maxRecDepth 100000 in
theorem ckc_24 : ([265, 266, 267, 268, 269, 270] : List Nat).all ckJ = true := by decide +kernel
set_option maxRecDepth 100000 in
theorem ckc_25 : ([271, 272, 273, 274, 275, 276, 277, 278] : List Nat).all ckJ = true := by decide +kernel
