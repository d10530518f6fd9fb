set_option maxRecDepth 100000 in
theorem ckc_9 : ([128, 129, 130, 131, 132, 133, 134, 135, 136, 137, 138, 139, 140, 141, 142, 143] : List Nat).all ckJ = true := by decide +kernel
set_option maxRecDepth 100000 in
theorem ckc_10 : ([144, 145, 146, 147, 148, 149, 150, 151, 152, 153, 154, 155, 156, 157, 158] : List Nat).all ckJ = true := by decide +kernel
set_option maxRecDepth 100000 in
theorem ckc_11 : ([159, 160, 161, 162, 163, 164, 165, 166, 167, 168, 169, 170, 171] : List Nat).all ckJ = true := by decide +kernel
set_option maxRecDepth 100000 in
theorem ckc_12 : ([172, 173, 174] : List Nat).all ckJ = true := by decide +kernel
set_option maxRecDepth 100000 in
theorem ckc_13 : ([175, 176, 177, 178, 179, 180, 181, 182, 183, 184, 185, 186, 187] : List Nat).all ckJ = true := by decide +kernel
set_option maxRecDepth 100000 in
theorem ckc_14 : ([188, 189, 190, 191, 192, 193] : List Nat).all ckJ = true := by decide +kernel
set_option maxRecDepth 100000 in
theorem ckc_15 : ([194, 195, 196, 197, 198, 199, 200, 201, 202, 203, 204, 205, 206, 207, 208] : List Nat).all ckJ = true := by decide +kernel
set_option maxRecDepth 100000 in
theorem ckc_16 : ([209, 210, 211, 212, 213] : List Nat).all ckJ = true := by decide +kernel
set_option maxRecDepth 100000 in
theorem ckc_17 : ([214, 215, 216, 217, 218, 219, 220, 221, 222, 223] : List Nat).all ckJ = true := by decide +kernel
