/-! the pair of village (by gen/mkv14.py) -/
theorem oct_bd (a : Int) : 0 ≤ iand a 255 ∧ iand a 255 ≤ 255 := by
  unfold iand
  show 0 ≤ (Int32.ofInt a &&& Int32.ofInt 255).toBitVec.toInt ∧ (Int32.ofInt a &&& Int32.ofInt 255).toBitVec.toInt ≤ 255
  have e : (Int32.ofInt a &&& Int32.ofInt 255).toBitVec.toNat ≤ 255 := by
    rw [Int32.toBitVec_and, BitVec.toNat_and]
    have : (Int32.ofInt 255).toBitVec.toNat = 255 := by decide
    rw [this]
    exact Nat.and_le_right
  rw [BitVec.toInt_eq_toNat_of_lt (by omega)]
  omega
theorem M3_ne {w : Wd} {g h nm : Nat → Int} {c : Nat} (a : c ≠ 144) (b : c ≠ 147) (e : c ≠ 149) : M3 w g h nm c = w c := by
  unfold M3
  rw [ubf_ne _ a, ubf_ne _ e, ubf_ne _ b]
abbrev dcI : List Nat := [0, 2, 4, 5, 6, 7, 8, 9, 10, 11, 12, 13, 14, 15, 16, 17, 18, 19, 20, 21, 22, 23, 24, 25, 26, 27, 28, 29, 30, 31, 32, 33, 34, 35, 36, 37, 38, 39, 40, 144, 146, 147, 148, 149]
theorem Inv_read {w W : Wd} {v : Int} (h : Inv w) (fr : Fr dcI w W) (t1 : W 0 1 = 0) (t2 : W 0 2 = v) (m2 : W 144 2 = 0) (m15 : W 144 15 = v) (f : GV (w 144) (W 144)) (st : W 0 12 = 0 ∨ W 0 12 = 1) (told : W 0 12 = 0 → Told (W 92) (W 93) (W 94) (W 96) (W 107) (W 108) (W 146)) (ws : WS (W 146)) (wp : WP (W 146)) (wb : WB (W 146))
    (rv : RV (W 4) (W 5) (W 6) (W 7) (W 8) (W 9) (W 10) (W 11) (W 12) (W 13) (W 14) (W 15) (W 146) (W 149)) (rp : RP (W 28) (W 29) (W 30) (W 31) (W 146)) (rb : RB (W 36) (W 37) (W 38) (W 39) (W 40) (W 146)) : Inv W := by
  have e1 := fr 1 (by decide)
  have e3 := fr 3 (by decide)
  have e44 := fr 44 (by decide)
  have e45 := fr 45 (by decide)
  have e46 := fr 46 (by decide)
  have e47 := fr 47 (by decide)
  have e48 := fr 48 (by decide)
  have e49 := fr 49 (by decide)
  have e50 := fr 50 (by decide)
  have e51 := fr 51 (by decide)
  have e52 := fr 52 (by decide)
  have e53 := fr 53 (by decide)
  have e54 := fr 54 (by decide)
  have e55 := fr 55 (by decide)
  have e56 := fr 56 (by decide)
  have e57 := fr 57 (by decide)
  have e58 := fr 58 (by decide)
  have e59 := fr 59 (by decide)
  have e60 := fr 60 (by decide)
  have e61 := fr 61 (by decide)
  have e62 := fr 62 (by decide)
  have e63 := fr 63 (by decide)
  have e64 := fr 64 (by decide)
  have e65 := fr 65 (by decide)
  have e66 := fr 66 (by decide)
  have e67 := fr 67 (by decide)
  have e68 := fr 68 (by decide)
  have e69 := fr 69 (by decide)
  have e70 := fr 70 (by decide)
  have e71 := fr 71 (by decide)
  have e72 := fr 72 (by decide)
  have e73 := fr 73 (by decide)
  have e74 := fr 74 (by decide)
  have e75 := fr 75 (by decide)
  have e76 := fr 76 (by decide)
  have e77 := fr 77 (by decide)
  have e78 := fr 78 (by decide)
  have e79 := fr 79 (by decide)
  have e80 := fr 80 (by decide)
  have e81 := fr 81 (by decide)
  have e82 := fr 82 (by decide)
  have e83 := fr 83 (by decide)
  have e84 := fr 84 (by decide)
  have e85 := fr 85 (by decide)
  have e86 := fr 86 (by decide)
  have e87 := fr 87 (by decide)
  have e88 := fr 88 (by decide)
  have e89 := fr 89 (by decide)
  have e90 := fr 90 (by decide)
  have e91 := fr 91 (by decide)
  have e92 := fr 92 (by decide)
  have e93 := fr 93 (by decide)
  have e94 := fr 94 (by decide)
  have e96 := fr 96 (by decide)
  have e107 := fr 107 (by decide)
  have e108 := fr 108 (by decide)
  have e113 := fr 113 (by decide)
  have e132 := fr 132 (by decide)
  have e133 := fr 133 (by decide)
  have e134 := fr 134 (by decide)
  have e140 := fr 140 (by decide)
  have e141 := fr 141 (by decide)
  have e142 := fr 142 (by decide)
  have e143 := fr 143 (by decide)
  have e145 := fr 145 (by decide)
  have e150 := fr 150 (by decide)
  have e174 := fr 174 (by decide)
  have e175 := fr 175 (by decide)
  have e176 := fr 176 (by decide)
  have e179 := fr 179 (by decide)
  have e182 := fr 182 (by decide)
  have e183 := fr 183 (by decide)
  have e184 := fr 184 (by decide)
  have g41 := f 41 (by omega)
  have g42 := f 42 (by omega)
  have g62 := f 62 (by omega)
  have g64 := f 64 (by omega)
  have g66 := f 66 (by omega)
  have g71 := f 71 (by omega)
  have g72 := f 72 (by omega)
  refine Inv.mk (RT.mk (by rw [t1, m2]) (by omega) (by omega) (by simp only [e1, e3, e44, e45, e46, e47, e48, e49, e50, e51, e52, e53, e54, e55, e56, e57, e58, e59, e60, e61, e62, e63, e64, e65, e66, e67, e68, e69, e70, e71, e72, e73, e74, e75, e76, e77, e78, e79, e80, e81, e82, e83, e84, e85, e86, e87, e88, e89, e90, e91, e92, e93, e94, e96, e107, e108, e113, e132, e133, e134, e140, e141, e142, e143, e145, e150, e174, e175, e176, e179, e182, e183, e184, g41, g42, g62, g64, g66, g71, g72]; exact h.tape.oct)) (by rw [t2, m15]) ws wp wb rv rp rb ?_ ?_ st told ?_ ?_ ?_ ?_ ?_ ?_ ?_ ?_ ?_ ?_ ?_ ?_ ?_ ?_
  · simp only [e1, e3, e44, e45, e46, e47, e48, e49, e50, e51, e52, e53, e54, e55, e56, e57, e58, e59, e60, e61, e62, e63, e64, e65, e66, e67, e68, e69, e70, e71, e72, e73, e74, e75, e76, e77, e78, e79, e80, e81, e82, e83, e84, e85, e86, e87, e88, e89, e90, e91, e92, e93, e94, e96, e107, e108, e113, e132, e133, e134, e140, e141, e142, e143, e145, e150, e174, e175, e176, e179, e182, e183, e184, g41, g42, g62, g64, g66, g71, g72]; exact h.im0
  · simp only [e1, e3, e44, e45, e46, e47, e48, e49, e50, e51, e52, e53, e54, e55, e56, e57, e58, e59, e60, e61, e62, e63, e64, e65, e66, e67, e68, e69, e70, e71, e72, e73, e74, e75, e76, e77, e78, e79, e80, e81, e82, e83, e84, e85, e86, e87, e88, e89, e90, e91, e92, e93, e94, e96, e107, e108, e113, e132, e133, e134, e140, e141, e142, e143, e145, e150, e174, e175, e176, e179, e182, e183, e184, g41, g42, g62, g64, g66, g71, g72]; exact h.im1
  · simp only [e1, e3, e44, e45, e46, e47, e48, e49, e50, e51, e52, e53, e54, e55, e56, e57, e58, e59, e60, e61, e62, e63, e64, e65, e66, e67, e68, e69, e70, e71, e72, e73, e74, e75, e76, e77, e78, e79, e80, e81, e82, e83, e84, e85, e86, e87, e88, e89, e90, e91, e92, e93, e94, e96, e107, e108, e113, e132, e133, e134, e140, e141, e142, e143, e145, e150, e174, e175, e176, e179, e182, e183, e184, g41, g42, g62, g64, g66, g71, g72]; exact h.wat
  · simp only [e1, e3, e44, e45, e46, e47, e48, e49, e50, e51, e52, e53, e54, e55, e56, e57, e58, e59, e60, e61, e62, e63, e64, e65, e66, e67, e68, e69, e70, e71, e72, e73, e74, e75, e76, e77, e78, e79, e80, e81, e82, e83, e84, e85, e86, e87, e88, e89, e90, e91, e92, e93, e94, e96, e107, e108, e113, e132, e133, e134, e140, e141, e142, e143, e145, e150, e174, e175, e176, e179, e182, e183, e184, g41, g42, g62, g64, g66, g71, g72]; exact h.hands
  · simp only [e1, e3, e44, e45, e46, e47, e48, e49, e50, e51, e52, e53, e54, e55, e56, e57, e58, e59, e60, e61, e62, e63, e64, e65, e66, e67, e68, e69, e70, e71, e72, e73, e74, e75, e76, e77, e78, e79, e80, e81, e82, e83, e84, e85, e86, e87, e88, e89, e90, e91, e92, e93, e94, e96, e107, e108, e113, e132, e133, e134, e140, e141, e142, e143, e145, e150, e174, e175, e176, e179, e182, e183, e184, g41, g42, g62, g64, g66, g71, g72]; exact h.hand
  · simp only [e1, e3, e44, e45, e46, e47, e48, e49, e50, e51, e52, e53, e54, e55, e56, e57, e58, e59, e60, e61, e62, e63, e64, e65, e66, e67, e68, e69, e70, e71, e72, e73, e74, e75, e76, e77, e78, e79, e80, e81, e82, e83, e84, e85, e86, e87, e88, e89, e90, e91, e92, e93, e94, e96, e107, e108, e113, e132, e133, e134, e140, e141, e142, e143, e145, e150, e174, e175, e176, e179, e182, e183, e184, g41, g42, g62, g64, g66, g71, g72]; exact h.askers
  · simp only [e1, e3, e44, e45, e46, e47, e48, e49, e50, e51, e52, e53, e54, e55, e56, e57, e58, e59, e60, e61, e62, e63, e64, e65, e66, e67, e68, e69, e70, e71, e72, e73, e74, e75, e76, e77, e78, e79, e80, e81, e82, e83, e84, e85, e86, e87, e88, e89, e90, e91, e92, e93, e94, e96, e107, e108, e113, e132, e133, e134, e140, e141, e142, e143, e145, e150, e174, e175, e176, e179, e182, e183, e184, g41, g42, g62, g64, g66, g71, g72]; exact h.asked
  · simp only [e1, e3, e44, e45, e46, e47, e48, e49, e50, e51, e52, e53, e54, e55, e56, e57, e58, e59, e60, e61, e62, e63, e64, e65, e66, e67, e68, e69, e70, e71, e72, e73, e74, e75, e76, e77, e78, e79, e80, e81, e82, e83, e84, e85, e86, e87, e88, e89, e90, e91, e92, e93, e94, e96, e107, e108, e113, e132, e133, e134, e140, e141, e142, e143, e145, e150, e174, e175, e176, e179, e182, e183, e184, g41, g42, g62, g64, g66, g71, g72]; exact h.gainers
  · simp only [e1, e3, e44, e45, e46, e47, e48, e49, e50, e51, e52, e53, e54, e55, e56, e57, e58, e59, e60, e61, e62, e63, e64, e65, e66, e67, e68, e69, e70, e71, e72, e73, e74, e75, e76, e77, e78, e79, e80, e81, e82, e83, e84, e85, e86, e87, e88, e89, e90, e91, e92, e93, e94, e96, e107, e108, e113, e132, e133, e134, e140, e141, e142, e143, e145, e150, e174, e175, e176, e179, e182, e183, e184, g41, g42, g62, g64, g66, g71, g72]; exact h.gained
  · simp only [e1, e3, e44, e45, e46, e47, e48, e49, e50, e51, e52, e53, e54, e55, e56, e57, e58, e59, e60, e61, e62, e63, e64, e65, e66, e67, e68, e69, e70, e71, e72, e73, e74, e75, e76, e77, e78, e79, e80, e81, e82, e83, e84, e85, e86, e87, e88, e89, e90, e91, e92, e93, e94, e96, e107, e108, e113, e132, e133, e134, e140, e141, e142, e143, e145, e150, e174, e175, e176, e179, e182, e183, e184, g41, g42, g62, g64, g66, g71, g72]; exact h.mid
  · simp only [e1, e3, e44, e45, e46, e47, e48, e49, e50, e51, e52, e53, e54, e55, e56, e57, e58, e59, e60, e61, e62, e63, e64, e65, e66, e67, e68, e69, e70, e71, e72, e73, e74, e75, e76, e77, e78, e79, e80, e81, e82, e83, e84, e85, e86, e87, e88, e89, e90, e91, e92, e93, e94, e96, e107, e108, e113, e132, e133, e134, e140, e141, e142, e143, e145, e150, e174, e175, e176, e179, e182, e183, e184, g41, g42, g62, g64, g66, g71, g72]; exact h.star
  · simp only [e1, e3, e44, e45, e46, e47, e48, e49, e50, e51, e52, e53, e54, e55, e56, e57, e58, e59, e60, e61, e62, e63, e64, e65, e66, e67, e68, e69, e70, e71, e72, e73, e74, e75, e76, e77, e78, e79, e80, e81, e82, e83, e84, e85, e86, e87, e88, e89, e90, e91, e92, e93, e94, e96, e107, e108, e113, e132, e133, e134, e140, e141, e142, e143, e145, e150, e174, e175, e176, e179, e182, e183, e184, g41, g42, g62, g64, g66, g71, g72]; exact h.done
  · simp only [e1, e3, e44, e45, e46, e47, e48, e49, e50, e51, e52, e53, e54, e55, e56, e57, e58, e59, e60, e61, e62, e63, e64, e65, e66, e67, e68, e69, e70, e71, e72, e73, e74, e75, e76, e77, e78, e79, e80, e81, e82, e83, e84, e85, e86, e87, e88, e89, e90, e91, e92, e93, e94, e96, e107, e108, e113, e132, e133, e134, e140, e141, e142, e143, e145, e150, e174, e175, e176, e179, e182, e183, e184, g41, g42, g62, g64, g66, g71, g72]; exact h.day
  · simp only [e1, e3, e44, e45, e46, e47, e48, e49, e50, e51, e52, e53, e54, e55, e56, e57, e58, e59, e60, e61, e62, e63, e64, e65, e66, e67, e68, e69, e70, e71, e72, e73, e74, e75, e76, e77, e78, e79, e80, e81, e82, e83, e84, e85, e86, e87, e88, e89, e90, e91, e92, e93, e94, e96, e107, e108, e113, e132, e133, e134, e140, e141, e142, e143, e145, e150, e174, e175, e176, e179, e182, e183, e184, g41, g42, g62, g64, g66, g71, g72]; exact h.shown
  · simp only [e1, e3, e44, e45, e46, e47, e48, e49, e50, e51, e52, e53, e54, e55, e56, e57, e58, e59, e60, e61, e62, e63, e64, e65, e66, e67, e68, e69, e70, e71, e72, e73, e74, e75, e76, e77, e78, e79, e80, e81, e82, e83, e84, e85, e86, e87, e88, e89, e90, e91, e92, e93, e94, e96, e107, e108, e113, e132, e133, e134, e140, e141, e142, e143, e145, e150, e174, e175, e176, e179, e182, e183, e184, g41, g42, g62, g64, g66, g71, g72]; exact h.words
  · simp only [e1, e3, e44, e45, e46, e47, e48, e49, e50, e51, e52, e53, e54, e55, e56, e57, e58, e59, e60, e61, e62, e63, e64, e65, e66, e67, e68, e69, e70, e71, e72, e73, e74, e75, e76, e77, e78, e79, e80, e81, e82, e83, e84, e85, e86, e87, e88, e89, e90, e91, e92, e93, e94, e96, e107, e108, e113, e132, e133, e134, e140, e141, e142, e143, e145, e150, e174, e175, e176, e179, e182, e183, e184, g41, g42, g62, g64, g66, g71, g72]; exact h.reserved
theorem dcI_sub : ∀ c, c ∈ (0 :: dcC) → c ∈ dcI := by decide
theorem dcI_sub2 : ∀ c, c ∈ [0, 4, 5, 6, 7, 8, 9, 10, 11, 12, 13, 14, 15, 28, 36] → c ∈ dcI := by decide
theorem P_village {d : Nat} {w : Wd} (h : Inv w) : Pair (d + 30) 15 173 [] w := by
  have T := h.tape
  have Tl := T.len
  have Tlo := T.lo
  have Thi := T.hi
  obtain ⟨L, hL⟩ : ∃ L : Nat, w 0 1 = L := ⟨(w 0 1).toNat, by omega⟩
  obtain ⟨x, hxt, hxL, hxM⟩ : ∃ x : Tx, x.t = w 1 ∧ x.L = L ∧ x.M = 1000 := ⟨(w 1, L, 1000), rfl, rfl, rfl⟩
  have hx : TxO x := TxO.mk (by omega) (by omega) (fun i hi => by rw [hxt, T.oct i hi]; exact oct_bd _)
  have tapeM : ∀ i, i < 1040 → iand (w 145 i) 255 = x.t i := fun i hi => by rw [hxt]; exact (T.oct i hi).symm
  unfold Pair
  apply X_village_0_en (d := d + 28)
  rw [hL]
  apply Tokens_start_2_en (d := d + 28)
  generalize hW0 : ub (ub (ub (ub (ub w 0 1 0) 2 2 (min (L : Int) 1040)) 2 3 (min (min (L : Int) 1040) 1000)) 2 4 0) 2 8 0 = W0
  have c2 : W0 2 2 = min (L : Int) 1040 := by rw [← hW0]; rfl
  have c3 : W0 2 3 = min (min (L : Int) 1040) 1000 := by rw [← hW0]; rfl
  have c4 : W0 2 4 = ((0 : Nat) : Int) := by rw [← hW0]; rfl
  have c8 : W0 2 8 = 0 := by rw [← hW0]; rfl
  have f0 : Fr (0 :: dcC) w W0 := by
    rw [← hW0]
    exact (by repeat' (first | exact Fr.rfl' _ _ | assumption | (refine Fr.ubf ?_ (by decide)) | (refine Fr.ub ?_ (by decide))))
  have t0 : ∀ i, i < 1040 → W0 1 i = x.t i := fun i hi => by rw [f0 1 (by decide), hxt]
  have k0 : ∀ i, i < 17 → W0 3 i = nthA 0 tokK i := fun i hi => by rw [f0 3 (by decide)]; exact h.words i hi
  have z01 : W0 0 = up1 (w 0) 1 0 := by rw [← hW0]; rfl
  refine S_advance (d := d + 25) hx t0 k0 (p := 0) (Nat.zero_le _) (by rw [c2, hxL]; omega) (by rw [c3, show rdb x = min x.L x.M from rfl]; omega) c4 (fun o ho o8 _ => ?_)
  have hs : CSt x 0 (ubf W0 2 o) := CSt.mk hx (by rw [ubf_self]; exact ClT_K ho) (by rw [ubf_self, o8]; exact c8) t0 k0
  have zz : ∀ i, i < 333 → i ≠ 4 → i ≠ 5 → hIv (w 147) i = 0 := fun i a b c => by
    unfold hIv
    rw [up1_ne _ c, up1_ne _ b]
    exact if_pos a
  have f1 : Fr (0 :: dcC) w (ubf W0 2 o) := f0.ubf (by decide)
  refine L_read (d := d + 20) (hI := hIv (w 147)) (nm := w 149) hs (Nat.zero_le _) rfl rfl zz (fun e w2 he fr hc => ⟨_, rfl, fun _ => ?_, fun y => ?_⟩) (fun h2 nm2 l2 ln w2 he hln fr ok D => ⟨_, rfl, fun y => by exfalso; omega, fun _ => ?_⟩)
  · -- a fault
    have fw : Fr (0 :: dcC) w w2 := f1.tr fr (fun c hc2 => List.mem_cons_of_mem _ hc2)
    have e0 : w2 0 = up1 (w 0) 1 0 := by rw [fr 0 (by decide)]; exact z01
    apply Mid.k
    have b144 : (ub w2 0 2 (w2 2 8)) 144 = w 144 := fw 144 (by decide)
    have b147 : (ub w2 0 2 (w2 2 8)) 147 = w 147 := fw 147 (by decide)
    have b149 : (ub w2 0 2 (w2 2 8)) 149 = w 149 := fw 149 (by decide)
    have b145 : (ub w2 0 2 (w2 2 8)) 145 = w 145 := fw 145 (by decide)
    have b150 : (ub w2 0 2 (w2 2 8)) 150 = w 150 := fw 150 (by decide)
    rw [← M3_self (ub w2 0 2 (w2 2 8)), b144, b147, b149]
    refine N_village (d := d + 21) (x := x) hx hxM (by rw [← Tl, hL, hxL]) (by rw [b145]; exact tapeM) (by rw [b150]; exact h.reserved) (fun e2 g2 h2 nm2 he2 f e20 hn hb => ?_) (fun h2 nm2 l2 ln g2 he2 => by rw [he] at he2; cases he2)
    rw [he] at he2
    injection he2 with he2
    subst he2
    refine Post.k rfl ?_ ?_ ?_
    · refine Inv_read (v := e.1) h (fun c hc2 => ?_) ?_ ?_ ?_ ?_ ?_ ?_ ?_ ?_ ?_ ?_ ?_ ?_ ?_
      · rw [M3_ne (fun z => hc2 (by rw [z]; decide)) (fun z => hc2 (by rw [z]; decide)) (fun z => hc2 (by rw [z]; decide)), ub_ne _ _ (fun z => hc2 (by rw [z]; decide))]
        exact fw c (fun z => hc2 (dcI_sub c z))
      · show (up1 (w2 0) 2 (w2 2 8)) 1 = 0
        rw [e0]; rfl
      · show (up1 (w2 0) 2 (w2 2 8)) 2 = _
        rw [up1_self]; exact hc.1
      · rw [M3_g]; exact e20
      · rw [M3_g]; exact hb.1
      · rw [M3_g]; exact f
      · show (up1 (w2 0) 2 (w2 2 8)) 12 = 0 ∨ (up1 (w2 0) 2 (w2 2 8)) 12 = 1
        rw [e0]; exact h.stale
      · have eA : ∀ c, c ≠ 144 → c ≠ 147 → c ≠ 149 → c ∉ (0 :: dcC) → (M3 (ub w2 0 2 (w2 2 8)) g2 h2 nm2) c = w c := fun c a b d' hc2 => by
          rw [M3_ne a b d', ub_ne _ _ (fun z => hc2 (by rw [z]; decide))]; exact fw c hc2
        rw [eA 92 (by decide) (by decide) (by decide) (by decide), eA 93 (by decide) (by decide) (by decide) (by decide), eA 94 (by decide) (by decide) (by decide) (by decide), eA 96 (by decide) (by decide) (by decide) (by decide), eA 107 (by decide) (by decide) (by decide) (by decide), eA 108 (by decide) (by decide) (by decide) (by decide), eA 146 (by decide) (by decide) (by decide) (by decide)]
        intro z
        have z : (up1 (w2 0) 2 (w2 2 8)) 12 = 0 := z
        rw [e0] at z
        exact h.told z
      · show WS (w2 146)
        rw [fw 146 (by decide)]; exact h.ws
      · show WP (w2 146)
        rw [fw 146 (by decide)]; exact h.wp
      · show WB (w2 146)
        rw [fw 146 (by decide)]; exact h.wb
      · show RV (w2 4) (w2 5) (w2 6) (w2 7) (w2 8) (w2 9) (w2 10) (w2 11) (w2 12) (w2 13) (w2 14) (w2 15) (w2 146) nm2
        rw [fw 4 (by decide), fw 5 (by decide), fw 6 (by decide), fw 7 (by decide), fw 8 (by decide), fw 9 (by decide), fw 10 (by decide), fw 11 (by decide), fw 12 (by decide), fw 13 (by decide), fw 14 (by decide), fw 15 (by decide), fw 146 (by decide)]
        exact RV.ex (fun i _ => rfl) hn h.ws h.rv
      · show RP (w2 28) (w2 29) (w2 30) (w2 31) (w2 146)
        rw [fw 28 (by decide), fw 29 (by decide), fw 30 (by decide), fw 31 (by decide), fw 146 (by decide)]
        exact h.rp
      · show RB (w2 36) (w2 37) (w2 38) (w2 39) (w2 40) (w2 146)
        rw [fw 36 (by decide), fw 37 (by decide), fw 38 (by decide), fw 39 (by decide), fw 40 (by decide), fw 146 (by decide)]
        exact h.rb
    · show w2 401 = _
      exact fw 401 (by decide)
    · show w2 400 = _
      exact fw 400 (by decide)
  · exfalso
    have eo := readF_ok x 1041 0 (hIv (w 147), w 149, 0) 0 e he
    have er : rdb x ≤ x.L := Nat.min_le_left _ _
    apply y
    rw [w32_id (by unfold in32; omega)]
    omega
  · -- a village
    have fw : Fr (0 :: dcC) w w2 := f1.tr fr (fun c hc2 => List.mem_cons_of_mem _ hc2)
    have e0 : w2 0 = up1 (w 0) 1 0 := by rw [fr 0 (by decide)]; exact z01
    refine S_copyV_4_16 (d := d + 27) (fun g1 g2 g3 g4 g5 g6 g7 g8 g9 g10 g11 a1 a2 a3 a4 a5 a6 a7 a8 a9 a10 a11 => ?_)
    apply Mid.k
    generalize hB : (ub (ub (ub (ub (ub (ubf (ubf (ubf (ub (ubf (ubf (ub (ubf (ubf (ub (ubf (ubf (ubf (ubf (ub (ub w2 0 2 (w2 2 8)) 4 0 ((ub w2 0 2 (w2 2 8)) 16 0)) 5 g1) 6 g2) 7 g3) 8 g4) 4 5 ((ub w2 0 2 (w2 2 8)) 16 5)) 9 g5) 10 g6) 4 8 ((ub w2 0 2 (w2 2 8)) 16 8)) 11 g7) 12 g8) 4 11 ((ub w2 0 2 (w2 2 8)) 16 11)) 13 g9) 14 g10) 15 g11) 4 15 ((ub w2 0 2 (w2 2 8)) 16 15)) 4 16 ((ub w2 0 2 (w2 2 8)) 16 16)) 28 0 0) 36 0 0) 0 12 1) = B
    have fB : Fr [0, 4, 5, 6, 7, 8, 9, 10, 11, 12, 13, 14, 15, 28, 36] w2 B := by
      rw [← hB]
      exact (by repeat' (first | exact Fr.rfl' _ _ | assumption | (refine Fr.ubf ?_ (by decide)) | (refine Fr.ub ?_ (by decide))))
    have B0 : B 0 = up1 (up1 (w2 0) 2 (w2 2 8)) 12 1 := by rw [← hB]; rfl
    have B4 : B 4 = up1 (up1 (up1 (up1 (up1 (up1 (w2 4) 0 (w2 16 0)) 5 (w2 16 5)) 8 (w2 16 8)) 11 (w2 16 11)) 15 (w2 16 15)) 16 (w2 16 16) := by rw [← hB]; rfl
    have B5 : B 5 = g1 := by rw [← hB]; rfl
    have B6 : B 6 = g2 := by rw [← hB]; rfl
    have B7 : B 7 = g3 := by rw [← hB]; rfl
    have B8 : B 8 = g4 := by rw [← hB]; rfl
    have B9 : B 9 = g5 := by rw [← hB]; rfl
    have B10 : B 10 = g6 := by rw [← hB]; rfl
    have B11 : B 11 = g7 := by rw [← hB]; rfl
    have B12 : B 12 = g8 := by rw [← hB]; rfl
    have B13 : B 13 = g9 := by rw [← hB]; rfl
    have B14 : B 14 = g10 := by rw [← hB]; rfl
    have B15 : B 15 = g11 := by rw [← hB]; rfl
    have B28 : B 28 0 = 0 := by rw [← hB]; rfl
    have B36 : B 36 0 = 0 := by rw [← hB]; rfl
    clear hB
    have b144 : B 144 = w 144 := by rw [fB 144 (by decide)]; exact fw 144 (by decide)
    have b147 : B 147 = w 147 := by rw [fB 147 (by decide)]; exact fw 147 (by decide)
    have b149 : B 149 = w 149 := by rw [fB 149 (by decide)]; exact fw 149 (by decide)
    have b145 : B 145 = w 145 := by rw [fB 145 (by decide)]; exact fw 145 (by decide)
    have b150 : B 150 = w 150 := by rw [fB 150 (by decide)]; exact fw 150 (by decide)
    rw [← M3_self B, b144, b147, b149]
    refine N_village (d := d + 21) (x := x) hx hxM (by rw [← Tl, hL, hxL]) (by rw [b145]; exact tapeM) (by rw [b150]; exact h.reserved) (fun e2 g2 h2 nm2 he2 => by rw [he] at he2; cases he2) (fun h3 nm3 l3 ln3 gm he2 f e20 e15 nm4 s2 n1 s1 s3 => ?_)
    rw [he] at he2
    injection he2 with he2
    injection he2 with ha hb
    injection ha with ha1 ha2
    injection ha2 with ha3 ha4
    subst hb ha1 ha3
    have W2 : WS s2 := WS.ex s1 D.ws
    refine Post.k rfl ?_ ?_ ?_
    · refine Inv_read (v := 0) h (fun c hc2 => ?_) ?_ ?_ ?_ ?_ ?_ ?_ ?_ ?_ ?_ ?_ ?_ ?_ ?_
      · rw [M3_ne (fun z => hc2 (by rw [z]; decide)) (fun z => hc2 (by rw [z]; decide)) (fun z => hc2 (by rw [z]; decide)), ubf_ne _ (fun z => hc2 (by rw [z]; decide)), fB c (fun z => hc2 (dcI_sub2 c z))]
        exact fw c (fun z => hc2 (dcI_sub c z))
      · show B 0 1 = 0
        rw [B0, e0]; rfl
      · show B 0 2 = 0
        rw [B0, up1_ne _ (by decide), up1_self]; exact ok
      · rw [M3_g]; exact e20
      · rw [M3_g]; exact e15
      · rw [M3_g]; exact f
      · refine Or.inr ?_
        show B 0 12 = 1
        rw [B0, up1_self]
      · intro z
        have z : B 0 12 = 0 := z
        rw [B0, up1_self] at z
        exact absurd z (by decide)
      · exact W2
      · show WP s2
        have y := s3 333 (by omega) (by omega)
        exact WP.mk (by omega) (fun i hi => by omega) (fun i hi => by omega) (fun i hi => by omega) (fun i hi => by omega)
      · show WB s2
        have y := s3 484 (by omega) (by omega)
        refine WB.mk (by omega) (fun i hi => by omega) (fun i hi => by omega) (fun i hi => by omega) (fun i hi => by omega) (fun u => ?_)
        rw [y]; exact Nat.zero_le _
      · show RV (B 4) (B 5) (B 6) (B 7) (B 8) (B 9) (B 10) (B 11) (B 12) (B 13) (B 14) (B 15) s2 nm4
        have V := D.rv
        rw [B4, B5, B6, B7, B8, B9, B10, B11, B12, B13, B14, B15]
        refine RV.ex s1 n1 D.ws ?_
        exact RV.copy D.ws V rfl rfl rfl rfl rfl rfl a1 a2 a3 a4 a5 a6 a7 a8 a9 a10 a11
      · show RP (B 28) (B 29) (B 30) (B 31) s2
        have y := s3 333 (by omega) (by omega)
        exact RP.mk (by rw [B28, y]) (fun i hi => by omega) (fun i hi => by omega) (fun i hi => by omega)
      · show RB (B 36) (B 37) (B 38) (B 39) (B 40) s2
        have y := s3 484 (by omega) (by omega)
        exact RB.mk (by rw [B36, y]) (fun i hi => by omega) (fun i hi => by omega) (fun i hi => by omega) (fun i hi => by omega)
    · show B 401 = _
      rw [fB 401 (by decide)]; exact fw 401 (by decide)
    · show B 400 = _
      rw [fB 400 (by decide)]; exact fw 400 (by decide)
