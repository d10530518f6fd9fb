theorem ck_list {l : List Nat} (h : l.all ckJ = true) : ∀ j ∈ l, ckJ j = true := fun j hj => List.all_eq_true.mp h j hj
theorem ck_in : ∀ j, j < 279 → ¬ j = 1 → j ∈ ([0, 2, 3, 4, 5, 6, 7, 8, 9, 10, 11, 12, 13, 14, 15, 16] ++ ([17, 18, 19, 20, 21, 22, 23, 24, 25, 26, 27, 28, 29, 30, 31] ++ ([32, 33, 34, 35, 36, 37, 38, 39, 40, 41, 42] ++ ([43, 44, 45, 46, 47, 48, 49, 50, 51, 52, 53, 54, 55, 56, 57, 58] ++ ([59, 60, 61, 62, 63, 64, 65, 66] ++ ([67, 68, 69, 70, 71, 72, 73, 74, 75, 76, 77, 78, 79] ++ ([80, 81, 82, 83, 84, 85, 86, 87, 88, 89, 90, 91, 92, 93, 94, 95, 96, 97, 98, 99, 100, 101] ++ ([102, 103, 104, 105, 106, 107, 108, 109, 110, 111, 112] ++ ([113, 114, 115, 116, 117, 118, 119, 120, 121, 122, 123, 124, 125, 126, 127] ++ ([128, 129, 130, 131, 132, 133, 134, 135, 136, 137, 138, 139, 140, 141, 142, 143] ++ ([144, 145, 146, 147, 148, 149, 150, 151, 152, 153, 154, 155, 156, 157, 158] ++ ([159, 160, 161, 162, 163, 164, 165, 166, 167, 168, 169, 170, 171] ++ ([172, 173, 174] ++ ([175, 176, 177, 178, 179, 180, 181, 182, 183, 184, 185, 186, 187] ++ ([188, 189, 190, 191, 192, 193] ++ ([194, 195, 196, 197, 198, 199, 200, 201, 202, 203, 204, 205, 206, 207, 208] ++ ([209, 210, 211, 212, 213] ++ ([214, 215, 216, 217, 218, 219, 220, 221, 222, 223] ++ ([224, 225, 226, 227, 228, 229] ++ ([230, 231, 232, 233, 234, 235, 236] ++ ([237, 238, 239, 240] ++ ([241, 242, 243, 244, 245, 246, 247, 248] ++ ([249, 250, 251, 252, 253, 254, 255, 256, 257] ++ ([258, 259, 260, 261, 262, 263, 264] ++ ([265, 266, 267, 268, 269, 270] ++ ([271, 272, 273, 274, 275, 276, 277, 278]))))))))))))))))))))))))) : List Nat) := by decide +kernel
theorem ck_every {j : Nat} (hj : j < 279) (h1 : ¬ j = 1) : ckJ j = true := by
  have h := ck_in j hj h1
  rcases List.mem_append.mp h with h | h
  · exact ck_list ckc_0 j h
  rcases List.mem_append.mp h with h | h
  · exact ck_list ckc_1 j h
  rcases List.mem_append.mp h with h | h
  · exact ck_list ckc_2 j h
  rcases List.mem_append.mp h with h | h
  · exact ck_list ckc_3 j h
  rcases List.mem_append.mp h with h | h
  · exact ck_list ckc_4 j h
  rcases List.mem_append.mp h with h | h
  · exact ck_list ckc_5 j h
  rcases List.mem_append.mp h with h | h
  · exact ck_list ckc_6 j h
  rcases List.mem_append.mp h with h | h
  · exact ck_list ckc_7 j h
  rcases List.mem_append.mp h with h | h
  · exact ck_list ckc_8 j h
  rcases List.mem_append.mp h with h | h
  · exact ck_list ckc_9 j h
  rcases List.mem_append.mp h with h | h
  · exact ck_list ckc_10 j h
  rcases List.mem_append.mp h with h | h
  · exact ck_list ckc_11 j h
  rcases List.mem_append.mp h with h | h
  · exact ck_list ckc_12 j h
  rcases List.mem_append.mp h with h | h
  · exact ck_list ckc_13 j h
  rcases List.mem_append.mp h with h | h
  · exact ck_list ckc_14 j h
  rcases List.mem_append.mp h with h | h
  · exact ck_list ckc_15 j h
  rcases List.mem_append.mp h with h | h
  · exact ck_list ckc_16 j h
  rcases List.mem_append.mp h with h | h
  · exact ck_list ckc_17 j h
  rcases List.mem_append.mp h with h | h
  · exact ck_list ckc_18 j h
  rcases List.mem_append.mp h with h | h
  · exact ck_list ckc_19 j h
  rcases List.mem_append.mp h with h | h
  · exact ck_list ckc_20 j h
  rcases List.mem_append.mp h with h | h
  · exact ck_list ckc_21 j h
  rcases List.mem_append.mp h with h | h
  · exact ck_list ckc_22 j h
  rcases List.mem_append.mp h with h | h
  · exact ck_list ckc_23 j h
  rcases List.mem_append.mp h with h | h
  · exact ck_list ckc_24 j h
  exact ck_list ckc_25 j h
