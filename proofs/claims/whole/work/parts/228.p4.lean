def put4 (t : Nat → Int) (n : Nat) (b : Int → Int) : Nat → Int := up1 (up1 (up1 (up1 t n (b 24)) (n + 1) (b 16)) (n + 2) (b 8)) (n + 3) (b 0)
theorem S_feedNumber {d : Nat} {Q : MV → Wd → Prop} {x : Int} {w : Wd} (n : Nat) (hn : w 0 1 = n) (hb : n + 4 ≤ 1040)
    (k : Q none (ub (ubf w 1 (put4 (w 1) n (fun s => iand (iushr x s) 255))) 0 1 (n + 4))) : Cw (d + 1) 13 [mR 0, mI x] w Q := by
  apply X_feedNumber_0_en
  intro n1
  have st : ∀ (m : Nat) (s : Int) (w : Wd), w 0 1 = m → m < 1040 → 0 ≤ s → s ≤ 24 → Wp (Cw (d + 0)) cd_X_feedNumber (0, 0, n1) Q 2 [mR 0, mI x, mI (s - 8)] [] (ub (ub w 1 m (iand (iushr x s) 255)) 0 1 (m + 1)) → Wp (Cw (d + 0)) cd_X_feedNumber (0, 0, n1) Q 2 [mR 0, mI x, mI s] [] w := by
    intro m s w h1 h2 h3 h4 h
    apply X_feedNumber_0_c2
    (repeat' (apply spl <;> intro))
    · exfalso; omega
    · exfalso; omega
    · (refine And.intro (by omega) ?_)
      rw [h1, w32_id (by unfold in32; omega), w32_id (by unfold in32; omega)]
      exact h
  apply st n 24 w hn (by omega) (by omega) (by omega)
  apply st (n + 1) 16 _ rfl (by omega) (by omega) (by omega)
  apply st (n + 2) 8 _ rfl (by omega) (by omega) (by omega)
  apply st (n + 3) 0 _ rfl (by omega) (by omega) (by omega)
  apply X_feedNumber_0_c2
  (repeat' (apply spl <;> intro))
  · refine cw_ k ?_
    unfold put4
    (funext c i; simp (decide := true) only [ub_ap, ubf_ap, up1_ap, ↓reduceIte]; (repeat' split) <;> first | rfl | omega | (simp_all; done) | (subst_vars; simp_all; done))
  · exfalso; omega
  · exfalso; omega
theorem S_four {d : Nat} {Q : MV → Wd → Prop} {x : Int} {w : Wd} (n : Nat) (hn : w 144 2 = n) (hb : n + 4 ≤ 1040)
    (k : Q none (ub (ubf w 145 (put4 (w 145) n (fun s => w8 (w8 (ishr x s))))) 144 2 (n + 4))) : Cw (d + 1) 170 [mR 144, mI x] w Q := by
  apply M_four_144_en
  intro n1
  have st : ∀ (m : Nat) (s : Int) (w : Wd), w 144 2 = m → m < 1040 → 0 ≤ s → s ≤ 24 → Wp (Cw (d + 0)) cd_M_four (0, 0, n1) Q 2 [mR 144, mI x, mI (s - 8)] [] (ub (ub w 145 m (w8 (w8 (ishr x s)))) 144 2 (m + 1)) → Wp (Cw (d + 0)) cd_M_four (0, 0, n1) Q 2 [mR 144, mI x, mI s] [] w := by
    intro m s w h1 h2 h3 h4 h
    apply M_four_144_c2
    (repeat' (apply spl <;> intro))
    · exfalso; omega
    · (refine And.intro (by omega) ?_)
      rw [h1, w32_id (by unfold in32; omega), w32_id (by unfold in32; omega)]
      exact h
  apply st n 24 w hn (by omega) (by omega) (by omega)
  apply st (n + 1) 16 _ rfl (by omega) (by omega) (by omega)
  apply st (n + 2) 8 _ rfl (by omega) (by omega) (by omega)
  apply st (n + 3) 0 _ rfl (by omega) (by omega) (by omega)
  apply M_four_144_c2
  (repeat' (apply spl <;> intro))
  · refine cw_ k ?_
    unfold put4
    (funext c i; simp (decide := true) only [ub_ap, ubf_ap, up1_ap, ↓reduceIte]; (repeat' split) <;> first | rfl | omega | (simp_all; done) | (subst_vars; simp_all; done))
  · exfalso; omega
theorem tb_w8 (a : Int) (k : Nat) (hk : k < 8) : tb (w8 a) k = tb a k := by
  unfold tb w8
  rw [k3i_back]
  rw [Int8.toBitVec_toInt32, BitVec.getLsbD_signExtend, Int32.toBitVec_toInt8, BitVec.getLsbD_signExtend]
  simp only [hk, show k < 32 by omega, decide_true, Bool.true_and, if_true]
theorem tb_iushr (a : Int) (n k : Nat) (hn : n < 32) (hk : k + n < 32) : tb (iushr a (n : Int)) k = tb a (n + k) := by
  have e : ∀ n : Fin 32, ((Int32.ofInt ((n : Nat) : Int)).toUInt32 &&& Int32.toUInt32 31).toBitVec.toNat % 32 = n := by decide
  have e := e ⟨n, hn⟩
  unfold tb iushr
  rw [k3i_back]
  simp only [UInt32.toBitVec_toInt32, UInt32.toBitVec_shiftRight, Int32.toBitVec_toUInt32] at e ⊢
  rw [BitVec.ushiftRight_eq', BitVec.getLsbD_ushiftRight]
  congr 1
  simp only [BitVec.toNat_umod]
  show _ % 32 + k = n + k
  rw [e]
theorem oct_eq (x : Int) (s : Nat) (hs : s ≤ 24) : iand (iushr x s) 255 = iand (w8 (w8 (ishr x s))) 255 := by
  refine tb_ext (iand_in _ _) (iand_in _ _) ?_
  intro k hk
  rw [tb_and, tb_and, show (255 : Int) = ((255 : Nat) : Int) from rfl, tb_nat 255 k (by omega)]
  by_cases q : k < 8
  · rw [tb_w8 _ _ q, tb_w8 _ _ q, tb_shr _ _ _ (by omega) (by omega), tb_iushr _ _ _ (by omega) (by omega)]
  · have : Nat.testBit 255 k = false := Nat.testBit_lt_two_pow (Nat.lt_of_lt_of_le (by omega : 255 < 2 ^ 8) (Nat.pow_le_pow_right (by omega) (by omega)))
    rw [this]; simp
theorem put4_oct (t t' : Nat → Int) (n : Nat) (x : Int) (h : ∀ i : Nat, i < 1040 → t i = iand (t' i) 255) : ∀ i : Nat, i < 1040 → put4 t n (fun s => iand (iushr x s) 255) i = iand (put4 t' n (fun s => w8 (w8 (ishr x s))) i) 255 := by
  intro i hi
  unfold put4
  simp only [up1_ap]
  split
  · exact oct_eq x 0 (by omega)
  · split
    · exact oct_eq x 8 (by omega)
    · split
      · exact oct_eq x 16 (by omega)
      · split
        · exact oct_eq x 24 (by omega)
        · exact h i hi
theorem P_feed {d : Nat} {w : Wd} (h : Inv w) (x1 x2 x3 x4 x5 : Int) : Pair (d + 3) 12 169 [mI x1, mI x2, mI x3, mI x4, mI x5] w := by
  have k0 : Inv (ub w 144 0 0) := (Inv.mk h.tape h.fault h.ws h.wp h.wb h.rv h.rp h.rb h.im0 h.im1 h.stale h.told h.wat h.hands h.hand h.askers h.asked h.gainers h.gained h.mid h.star h.done h.day h.shown h.words h.reserved)
  have h1 := h.tape.len
  have h2 := h.tape.hi
  have h3 := h.tape.lo
  unfold Pair
  apply X_feed_0_en
  (repeat' (apply spl <;> intro))
  · ((try simp (disch := (unfold in32; omega)) only [w32_id] at *); (try simp (disch := (unfold in32; omega)) only [w32_id] at *))
    obtain ⟨n, hn⟩ := Int.eq_ofNat_of_zero_le h3
    have hb : n + 20 ≤ 1040 := by omega
    refine S_feedNumber n (by omega) (by omega) ?_
    refine S_feedNumber (n + 4) rfl (by omega) ?_
    refine S_feedNumber (n + 8) rfl (by omega) ?_
    refine S_feedNumber (n + 12) rfl (by omega) ?_
    refine S_feedNumber (n + 16) rfl (by omega) ?_
    (apply Mid.k)
    apply M_feed_144_en
    (repeat' (apply spl <;> intro))
    · refine S_four n hn (by omega) ?_
      refine S_four (n + 4) rfl (by omega) ?_
      refine S_four (n + 8) rfl (by omega) ?_
      refine S_four (n + 12) rfl (by omega) ?_
      refine S_four (n + 16) rfl (by omega) ?_
      refine Post.k rfl (Inv.mk (⟨rfl, ?_, ?_, ?_⟩) h.fault h.ws h.wp h.wb h.rv h.rp h.rb h.im0 h.im1 h.stale h.told h.wat h.hands h.hand h.askers h.asked h.gainers h.gained h.mid h.star h.done h.day h.shown h.words h.reserved) rfl rfl
      · show (0 : Int) ≤ ((n + 16 : Nat) : Int) + 4; omega
      · show ((n + 16 : Nat) : Int) + 4 ≤ 1040; omega
      · exact put4_oct _ _ _ _ (put4_oct _ _ _ _ (put4_oct _ _ _ _ (put4_oct _ _ _ _ (put4_oct _ _ _ _ h.tape.oct))))
    · exfalso
      rename_i q
      apply q
      show w32 (w 144 2 + 20) ≤ 1040
      rw [w32_id (by unfold in32; omega)]; omega
  · (apply Mid.k)
    apply M_feed_144_en
    (repeat' (apply spl <;> intro))
    · exfalso
      rename_i q1 q2
      apply q1
      have q2 : w32 (w 144 2 + 20) ≤ 1040 := q2
      rw [h1]; exact q2
    · exact Post.k rfl k0 rfl rfl
