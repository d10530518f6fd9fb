/-! longs; the lesser sets of a set, one after the other -/
theorem cmp3_zero {a b : Int} : cmp3 a b = 0 ↔ a = b := by
  unfold cmp3
  by_cases h : a < b
  · rw [if_pos h]; omega
  · rw [if_neg h]
    by_cases h2 : a = b
    · rw [if_pos h2]; omega
    · rw [if_neg h2]; omega
theorem i64sh {n : Nat} (hn : n < 64) : ((Int32.ofInt (n : Int)).toInt64 &&& 63).toBitVec.smod 64 = BitVec.ofNat 64 n := by
  have : ∀ k : Fin 64, ((Int32.ofInt ((k : Nat) : Int)).toInt64 &&& 63).toBitVec.smod 64 = BitVec.ofNat 64 k := by decide
  exact this ⟨n, hn⟩
theorem u64sh {n : Nat} (hn : n < 64) : ((Int32.ofInt (n : Int)).toInt64.toUInt64 &&& Int64.toUInt64 63).toBitVec.toNat % 64 = n := by
  have : ∀ k : Fin 64, ((Int32.ofInt ((k : Nat) : Int)).toInt64.toUInt64 &&& Int64.toUInt64 63).toBitVec.toNat % 64 = k := by decide
  exact this ⟨n, hn⟩
theorem i64bv (a : Nat) : (Int64.ofInt (a : Int)).toBitVec = BitVec.ofNat 64 a := by
  show BitVec.ofInt 64 (a : Int) = _
  exact BitVec.ofInt_natCast ..
theorem bvInt {x : BitVec 64} (h : x.toNat < 9223372036854775808) : x.toInt = (x.toNat : Int) := BitVec.toInt_eq_toNat_of_lt (by omega)
theorem lshl_nat {a n : Nat} (hn : n < 64) (h : a * 2 ^ n < 9223372036854775808) : lshl (a : Int) (n : Int) = ((a * 2 ^ n : Nat) : Int) := by
  unfold lshl
  show ((Int64.ofInt (a : Int)) <<< ((Int32.ofInt (n : Int)).toInt64 &&& 63)).toBitVec.toInt = _
  rw [Int64.toBitVec_shiftLeft, i64sh hn, i64bv, BitVec.shiftLeft_eq']
  have e : (BitVec.ofNat 64 n).toNat = n := by simp; omega
  have ha : a < 2 ^ 64 := by
    have : a * 1 ≤ a * 2 ^ n := Nat.mul_le_mul_left _ (Nat.two_pow_pos n)
    omega
  have e2 : (BitVec.ofNat 64 a <<< n).toNat = a * 2 ^ n := by
    rw [BitVec.toNat_shiftLeft, BitVec.toNat_ofNat, Nat.mod_eq_of_lt ha, Nat.shiftLeft_eq, Nat.mod_eq_of_lt (by omega)]
  rw [e, bvInt (by rw [e2]; exact h), e2]
theorem lshr_nat {a n : Nat} (hn : n < 64) (h : a < 9223372036854775808) : lshr (a : Int) (n : Int) = ((a / 2 ^ n : Nat) : Int) := by
  unfold lshr
  show ((Int64.ofInt (a : Int)) >>> ((Int32.ofInt (n : Int)).toInt64 &&& 63)).toBitVec.toInt = _
  rw [Int64.toBitVec_shiftRight, i64sh hn, i64bv, BitVec.sshiftRight_eq']
  have e : (BitVec.ofNat 64 n).toNat = n := by simp; omega
  have ea : (BitVec.ofNat 64 a).toNat = a := by rw [BitVec.toNat_ofNat, Nat.mod_eq_of_lt (by omega)]
  rw [e, BitVec.toInt_sshiftRight, bvInt (by rw [ea]; exact h), ea]
  show (((a : Nat) : Int) >>> n) = _
  rw [Int.shiftRight_eq_div_pow]
  rw [Int.natCast_ediv]
theorem lushr_nat {a n : Nat} (hn : n < 64) (h : a < 9223372036854775808) : lushr (a : Int) (n : Int) = ((a / 2 ^ n : Nat) : Int) := by
  unfold lushr
  have e2 : ((Int64.ofInt (a : Int)).toUInt64 >>> ((Int32.ofInt (n : Int)).toInt64.toUInt64 &&& Int64.toUInt64 63)).toInt64.toBitVec.toNat = a / 2 ^ n := by
    show ((Int64.ofInt (a : Int)).toUInt64 >>> ((Int32.ofInt (n : Int)).toInt64.toUInt64 &&& Int64.toUInt64 63)).toBitVec.toNat = _
    rw [UInt64.toBitVec_shiftRight, BitVec.ushiftRight_eq', BitVec.toNat_ushiftRight, BitVec.toNat_umod]
    have e3 := u64sh hn
    have e4 : (64 : BitVec 64).toNat = 64 := rfl
    rw [e4, e3]
    show (Int64.ofInt (a : Int)).toBitVec.toNat >>> n = _
    rw [i64bv, BitVec.toNat_ofNat, Nat.mod_eq_of_lt (by omega), Nat.shiftRight_eq_div_pow]
  have := Nat.div_le_self a (2 ^ n)
  show ((Int64.ofInt (a : Int)).toUInt64 >>> ((Int32.ofInt (n : Int)).toInt64.toUInt64 &&& Int64.toUInt64 63)).toInt64.toBitVec.toInt = _
  rw [bvInt (by rw [e2]; omega), e2]
theorem tb_natw (n k : Nat) : tb (n : Int) k = (decide (k < 32) && n.testBit k) := by
  have h : (Int32.ofInt (n : Int)).toBitVec = BitVec.ofNat 32 n := by
    show BitVec.ofInt 32 (n : Int) = _
    exact BitVec.ofInt_natCast ..
  unfold tb
  rw [h, BitVec.getLsbD_ofNat]
theorem iand_low {x b : Nat} (hb : b < 31) : iand (w32 (x : Int)) ((2 ^ b - 1 : Nat) : Int) = ((x % 2 ^ b : Nat) : Int) := by
  have e : iand (w32 (x : Int)) ((2 ^ b - 1 : Nat) : Int) = iand (x : Int) ((2 ^ b - 1 : Nat) : Int) := by unfold iand; rw [w32_of]
  have p : 2 ^ b < 2147483648 := pw31 (by omega)
  have p0 := Nat.two_pow_pos b
  have hm : x % 2 ^ b < 2 ^ b := Nat.mod_lt _ p0
  rw [e]
  refine tb_ext (iand_in _ _) (nat31 (by omega)) ?_
  intro k hk
  rw [tb_and, tb_natw, tb_natw, tb_natw, Nat.testBit_two_pow_sub_one, Nat.testBit_mod_two_pow]
  simp [hk, Bool.and_comm]
theorem and_mod2 (x y : Nat) : (x &&& y) % 2 = (x % 2) * (y % 2) := by
  have h := Nat.and_mod_two_eq_one (a := x) (b := y)
  by_cases p : x % 2 = 1
  · by_cases q : y % 2 = 1
    · rw [h.mpr ⟨p, q⟩, p, q]
    · have : ¬ (x &&& y) % 2 = 1 := fun z => q (h.mp z).2
      have e : y % 2 = 0 := by omega
      rw [e, Nat.mul_zero]; omega
  · have : ¬ (x &&& y) % 2 = 1 := fun z => p (h.mp z).1
    have e : x % 2 = 0 := by omega
    rw [e, Nat.zero_mul]; omega
theorem sub_next : ∀ (n : Nat) {all met S : Nat}, met < 2 ^ n → met &&& all = met → S &&& all = S → S < met → S ≤ (met - 1) &&& all
  | 0, all, met, S, h, _, _, h4 => by rw [Nat.pow_zero] at h; omega
  | n + 1, all, met, S, h, h1, h2, h4 => by
    have d1 : met / 2 &&& all / 2 = met / 2 := by rw [← Nat.and_div_two, h1]
    have d2 : S / 2 &&& all / 2 = S / 2 := by rw [← Nat.and_div_two, h2]
    have m2 : S % 2 = (S % 2) * (all % 2) := by
      have := and_mod2 S all
      rw [h2] at this; exact this
    have dd := Nat.and_div_two (a := met - 1) (b := all)
    have dm := and_mod2 (met - 1) all
    rcases Nat.mod_two_eq_zero_or_one met with p | p
    · have e1 : (met - 1) / 2 = met / 2 - 1 := by omega
      have e2 : (met - 1) % 2 = 1 := by omega
      have ih := sub_next n (all := all / 2) (met := met / 2) (S := S / 2) (by rw [Nat.pow_succ] at h; omega) d1 d2 (by omega)
      rw [e1] at dd
      rw [e2, Nat.one_mul] at dm
      have m3 : S % 2 ≤ all % 2 := by
        rcases Nat.mod_two_eq_zero_or_one all with r | r
        · rw [r, Nat.mul_zero] at m2; omega
        · omega
      omega
    · have e1 : (met - 1) / 2 = met / 2 := by omega
      rw [e1, d1] at dd
      omega
theorem sub_dec {all met : Nat} (h : 0 < met) : (met - 1) &&& all < met := by
  have := Nat.and_le_left (n := met - 1) (m := all)
  omega
theorem sub_is (all x : Nat) : (x &&& all) &&& all = x &&& all := by rw [Nat.and_assoc, Nat.and_self]
theorem sub_tbit {S all : Nat} (h : S &&& all = S) {i : Nat} (hi : S.testBit i = true) : all.testBit i = true := by
  rw [← h, Nat.testBit_and, Bool.and_eq_true] at hi
  exact hi.2
theorem sub_xor {S all v : Nat} (h : S &&& all = S) (hv : S.testBit v = true) : (S ^^^ 2 ^ v) &&& all = S ^^^ 2 ^ v := by
  apply Nat.eq_of_testBit_eq
  intro i
  rw [Nat.testBit_and, tbit_xor_pow hv]
  unfold remB
  cases q : S.testBit i
  · simp
  · rw [sub_tbit h q]; simp
