theorem tb_iushr' (a : Int) (n k : Nat) (hn : n < 32) : tb (iushr a (n : Int)) k = tb a (n + k) := by
  have e : ∀ n : Fin 32, ((Int32.ofInt ((n : Nat) : Int)).toUInt32 &&& Int32.toUInt32 31).toBitVec.toNat % 32 = n := by decide
  have e := e ⟨n, hn⟩
  unfold tb iushr
  rw [k3i_back]
  simp only [UInt32.toBitVec_toInt32, UInt32.toBitVec_shiftRight, Int32.toBitVec_toUInt32] at e ⊢
  rw [BitVec.ushiftRight_eq', BitVec.getLsbD_ushiftRight]
  congr 1
  simp only [BitVec.toNat_umod]
  show _ % 32 + k = n + k
  rw [e]
theorem nin32 {n : Nat} (h : n < 2147483648) : in32 (n : Int) := by unfold in32; omega
theorem iand_nat {a b : Nat} (ha : a < 2147483648) (hb : b < 2147483648) : iand (a : Int) (b : Int) = ((a &&& b : Nat) : Int) := by
  have h := Nat.and_le_left (n := a) (m := b)
  refine tb_ext (iand_in _ _) (nin32 (by omega)) ?_
  intro k hk
  rw [tb_and, tb_nat _ _ (by omega), tb_nat _ _ (by omega), tb_nat _ _ (by omega), Nat.testBit_and]
theorem iushr_nat {a n : Nat} (ha : a < 2147483648) (hn : n < 32) : iushr (a : Int) (n : Int) = ((a >>> n : Nat) : Int) := by
  have h : a >>> n ≤ a := by rw [Nat.shiftRight_eq_div_pow]; exact Nat.div_le_self _ _
  refine tb_ext (k3i_in _) (nin32 (by omega)) ?_
  intro k hk
  rw [tb_iushr' _ _ _ hn, tb_nat _ _ (by omega), tb_nat _ _ (by omega), Nat.testBit_shiftRight]
theorem ishr_nat {a n : Nat} (ha : a < 2147483648) (hn : n < 32) : ishr (a : Int) (n : Int) = ((a >>> n : Nat) : Int) := by
  have h : a >>> n ≤ a := by rw [Nat.shiftRight_eq_div_pow]; exact Nat.div_le_self _ _
  refine tb_ext (ishr_in _ _) (nin32 (by omega)) ?_
  intro k hk
  rw [tb_nat (a >>> n) k (by omega), Nat.testBit_shiftRight]
  by_cases q : k + n < 32
  · rw [tb_shr _ _ _ hn q, tb_nat _ _ (by omega)]
  · have z : a.testBit (n + k) = false := Nat.testBit_lt_two_pow (Nat.lt_of_lt_of_le (by omega : a < 2 ^ 31) (Nat.pow_le_pow_right (by omega) (by omega)))
    rw [z]
    unfold tb ishr
    rw [k3i_back, i32_and31 hn, Int32.toBitVec_shiftRight, i32_mod hn]
    have : (BitVec.ofNat 32 n).toNat = n := by simp; omega
    rw [BitVec.sshiftRight_eq', this, BitVec.getLsbD_sshiftRight]
    have hm : (Int32.ofInt (a : Int)).toBitVec.msb = false := by
      rw [BitVec.msb_eq_getLsbD_last]
      have := tb_nat a 31 (by omega)
      unfold tb at this
      rw [this]
      exact Nat.testBit_lt_two_pow ha
    rw [hm]; simp; omega
theorem bchk_at : ∀ m k : Nat, bchk m = true → k < m → bcn (2 * k) = bcn k ∧ bcn (2 * k + 1) = bcn k + 1
  | 0, k, _, h => by omega
  | m + 1, k, hc, h => by
    have hc : ((Nat.beq (bcn (2 * m)) (bcn m) && Nat.beq (bcn (2 * m + 1)) (bcn m + 1)) && bchk m) = true := hc
    rw [Bool.and_eq_true, Bool.and_eq_true] at hc
    by_cases q : k = m
    · subst q; exact ⟨Nat.eq_of_beq_eq_true hc.1.1, Nat.eq_of_beq_eq_true hc.1.2⟩
    · exact bchk_at m k hc.2 (by omega)
theorem pop_go : ∀ (f n : Nat), n < 65536 → n < 2 ^ f → pop.go f n = bcn n
  | 0, n, _, h => by have : n = 0 := by omega
                     subst this; rfl
  | f + 1, n, h1, h2 => by
    unfold pop.go
    have h3 : n / 2 < 2 ^ f := by rw [Nat.pow_succ] at h2; omega
    rw [pop_go f (n / 2) (by omega) h3]
    have h4 := bchk_at 32768 (n / 2) bchk_all (by omega)
    rcases Nat.mod_two_eq_zero_or_one n with q | q
    · have e : 2 * (n / 2) = n := by omega
      rw [e] at h4; rw [q, h4.1]; omega
    · have e : 2 * (n / 2) + 1 = n := by omega
      rw [e] at h4; rw [q, h4.2]; omega
theorem pop_eq {n : Nat} (h : n < 65536) : bcn n = pop n := (pop_go 32 n h (by omega)).symm
theorem shr_le (a n : Nat) : a >>> n ≤ a := by rw [Nat.shiftRight_eq_div_pow]; exact Nat.div_le_self _ _
theorem S_bitCount {d : Nat} {Q : MV → Wd → Prop} {w : Wd} {x : Int} (n : Nat) (hx : x = n) (hn : n < 65536) (k : Q (mI (pop n)) w) : Cw (d + 1) 278 [mI x] w Q := by
  subst hx
  apply Cw_in (by decide) (by decide) (Nat.le_of_ble_eq_true rfl)
  intro n1
  have b1 : bc1 n < 65536 := Nat.lt_of_le_of_lt (Nat.sub_le _ _) hn
  have b2 : bc2 (bc1 n) < 1717986919 := by
    unfold bc2
    have h1 := Nat.and_le_right (n := bc1 n) (m := 858993459)
    have h2 := Nat.and_le_right (n := bc1 n >>> 2) (m := 858993459)
    omega
  have b3 : bc3 (bc2 (bc1 n)) ≤ 252645135 := Nat.and_le_right
  have s3 := shr_le (bc3 (bc2 (bc1 n))) 8
  have b4 : bc4 (bc3 (bc2 (bc1 n))) ≤ 505290270 := by unfold bc4; omega
  have s4 := shr_le (bc4 (bc3 (bc2 (bc1 n)))) 16
  have e1 : w32 ((n : Int) - iand (iushr (n : Int) 1) 1431655765) = (bc1 n : Nat) := by
    have h1 := shr_le n 1
    have h2 := Nat.and_le_left (n := n >>> 1) (m := 1431655765)
    rw [show (1 : Int) = ((1 : Nat) : Int) from rfl, iushr_nat (by omega) (by omega), show (1431655765 : Int) = ((1431655765 : Nat) : Int) from rfl, iand_nat (by omega) (by omega), w32_id (by unfold in32; omega)]
    unfold bc1; omega
  have e2 : w32 (iand ((bc1 n : Nat) : Int) 858993459 + iand (iushr ((bc1 n : Nat) : Int) 2) 858993459) = (bc2 (bc1 n) : Nat) := by
    have h1 := shr_le (bc1 n) 2
    have h2 := Nat.and_le_right (n := bc1 n) (m := 858993459)
    have h3 := Nat.and_le_right (n := bc1 n >>> 2) (m := 858993459)
    rw [show (2 : Int) = ((2 : Nat) : Int) from rfl, iushr_nat (by omega) (by omega), show (858993459 : Int) = ((858993459 : Nat) : Int) from rfl, iand_nat (by omega) (by omega), iand_nat (by omega) (by omega), w32_id (by unfold in32; omega)]
    unfold bc2; omega
  have e3 : iand (w32 (((bc2 (bc1 n) : Nat) : Int) + iushr ((bc2 (bc1 n) : Nat) : Int) 4)) 252645135 = (bc3 (bc2 (bc1 n)) : Nat) := by
    have h1 : bc2 (bc1 n) >>> 4 ≤ 107374183 := by rw [Nat.shiftRight_eq_div_pow]; omega
    rw [show (4 : Int) = ((4 : Nat) : Int) from rfl, iushr_nat (by omega) (by omega), w32_id (by unfold in32; omega), show (252645135 : Int) = ((252645135 : Nat) : Int) from rfl, ← Int.natCast_add, iand_nat (by omega) (by omega)]
    rfl
  have e4 : w32 (((bc3 (bc2 (bc1 n)) : Nat) : Int) + iushr ((bc3 (bc2 (bc1 n)) : Nat) : Int) 8) = (bc4 (bc3 (bc2 (bc1 n))) : Nat) := by
    rw [show (8 : Int) = ((8 : Nat) : Int) from rfl, iushr_nat (by omega) (by omega), w32_id (by unfold in32; omega)]
    unfold bc4; omega
  have e5 : iand (w32 (((bc4 (bc3 (bc2 (bc1 n))) : Nat) : Int) + iushr ((bc4 (bc3 (bc2 (bc1 n))) : Nat) : Int) 16)) 63 = (bcn n : Nat) := by
    rw [show (16 : Int) = ((16 : Nat) : Int) from rfl, iushr_nat (by omega) (by omega), w32_id (by unfold in32; omega), show (63 : Int) = ((63 : Nat) : Int) from rfl, ← Int.natCast_add, iand_nat (by omega) (by omega)]
    rfl
  rw [← pop_eq hn, ← e5, ← e4, ← e3, ← e2, ← e1] at k
  exact Wp.s (Wp.s (Wp.s (Wp.s (Wp.s (Wp.s (Wp.s (Wp.s (Wp.s (Wp.s (Wp.s (Wp.s (Wp.s (Wp.s (Wp.s (Wp.s (Wp.s (Wp.s (Wp.s (Wp.s (Wp.s (Wp.s (Wp.s (Wp.s (Wp.s (Wp.s (Wp.s (Wp.s (Wp.s (Wp.s (Wp.s (Wp.s (Wp.s (Wp.s (Wp.s (Wp.s (Wp.s (Wp.s (Wp.s (Wp.s (Wp.s (Wp.s k)))))))))))))))))))))))))))))))))))))))))
