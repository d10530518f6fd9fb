set_option maxRecDepth 100000 in
theorem ckc_0 : ([0, 2, 3, 4, 5, 6, 7, 8, 9, 10, 11, 12, 13, 14, 15, 16] : List Nat).all ckJ = true := by decide +kernel
set_option maxRecDepth 100000 in
theorem ckc_1 : ([17, 18, 19, 20, 21, 22, 23, 24, 25, 26, 27, 28, 29, 30, 31] : List Nat).all ckJ = true := by decide +kernel
set_option maxRecDepth 100000 in
theorem ckc_2 : ([32, 33, 34, 35, 36, 37, 38, 39, 40, 41, 42] : List Nat).all ckJ = true := by decide +kernel
set_option maxRecDepth 100000 in
theorem ckc_3 : ([43, 44, 45, 46, 47, 48, 49, 50, 51, 52, 53, 54, 55, 56, 57, 58] : List Nat).all ckJ = true := by decide +kernel
set_option maxRecDepth 100000 in
theorem ckc_4 : ([59, 60, 61, 62, 63, 64, 65, 66] : List Nat).all ckJ = true := by decide +kernel
set_option maxRecDepth 100000 in
theorem ckc_5 : ([67, 68, 69, 70, 71, 72, 73, 74, 75, 76, 77, 78, 79] : List Nat).all ckJ = true := by decide +kernel
set_option maxRecDepth 100000 in
theorem ckc_6 : ([80, 81, 82, 83, 84, 85, 86, 87, 88, 89, 90, 91, 92, 93, 94, 95, 96, 97, 98, 99, 100, 101] : List Nat).all ckJ = true := by decide +kernel
set_option maxRecDepth 100000 in
theorem ckc_7 : ([102, 103, 104, 105, 106, 107, 108, 109, 110, 111, 112] : List Nat).all ckJ = true := by decide +kernel
set_option maxRecDepth 100000 in
theorem ckc_8 : ([113, 114, 115, 116, 117, 118, 119, 120, 121, 122, 123, 124, 125, 126, 127] : List Nat).all ckJ = true := by decide +kernel
