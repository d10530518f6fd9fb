/-! numbers: Int against the machine's words -/
def in32 (x : Int) : Prop := -2147483648 ≤ x ∧ x < 2147483648
def in64 (x : Int) : Prop := -9223372036854775808 ≤ x ∧ x < 9223372036854775808
theorem k3i_rt {x : Int} (h : in32 x) : (Int32.ofInt x).toInt = x := Int32.toInt_ofInt_of_le (by have := h.1; omega) (by have := h.2; omega)
theorem k3l_rt {x : Int} (h : in64 x) : (Int64.ofInt x).toInt = x := Int64.toInt_ofInt_of_le (by have := h.1; omega) (by have := h.2; omega)
theorem k3i_in (y : Int32) : in32 y.toInt := by
  have h1 := Int32.le_toInt y
  have h2 := Int32.toInt_lt y
  unfold in32
  omega
theorem k3l_in (y : Int64) : in64 y.toInt := by
  have h1 := Int64.le_toInt y
  have h2 := Int64.toInt_lt y
  unfold in64
  omega
theorem k3i_back (y : Int32) : Int32.ofInt y.toInt = y := Int32.ofInt_toInt y
theorem k3l_back (y : Int64) : Int64.ofInt y.toInt = y := Int64.ofInt_toInt y
theorem w32_toInt (x : Int) : w32 x = (Int32.ofInt x).toInt := by rw [Int32.toInt_ofInt]; rfl
theorem w64_toInt (x : Int) : w64 x = (Int64.ofInt x).toInt := by rw [Int64.toInt_ofInt]; rfl
theorem w32_in (x : Int) : in32 (w32 x) := by rw [w32_toInt]; exact k3i_in _
theorem w64_in (x : Int) : in64 (w64 x) := by rw [w64_toInt]; exact k3l_in _
theorem w32_of (x : Int) : Int32.ofInt (w32 x) = Int32.ofInt x := by rw [w32_toInt, k3i_back]
theorem w64_of (x : Int) : Int64.ofInt (w64 x) = Int64.ofInt x := by rw [w64_toInt, k3l_back]
theorem w32_id {x : Int} (h : in32 x) : w32 x = x := by rw [w32_toInt, k3i_rt h]
theorem w64_id {x : Int} (h : in64 x) : w64 x = x := by rw [w64_toInt, k3l_rt h]
theorem k3i_add (a b : Int) : Int32.ofInt a + Int32.ofInt b = Int32.ofInt (w32 (a + b)) := by rw [w32_of, Int32.ofInt_add]
theorem k3i_sub (a b : Int) : Int32.ofInt a - Int32.ofInt b = Int32.ofInt (w32 (a - b)) := by rw [w32_of, Int32.ofInt_sub]
theorem k3i_mul (a b : Int) : Int32.ofInt a * Int32.ofInt b = Int32.ofInt (w32 (a * b)) := by rw [w32_of, Int32.ofInt_mul]
theorem k3l_add (a b : Int) : Int64.ofInt a + Int64.ofInt b = Int64.ofInt (w64 (a + b)) := by rw [w64_of, Int64.ofInt_add]
theorem k3l_sub (a b : Int) : Int64.ofInt a - Int64.ofInt b = Int64.ofInt (w64 (a - b)) := by rw [w64_of, Int64.ofInt_sub]
theorem k3l_mul (a b : Int) : Int64.ofInt a * Int64.ofInt b = Int64.ofInt (w64 (a * b)) := by rw [w64_of, Int64.ofInt_mul]
theorem k3i_eq {a b : Int} (ha : in32 a) (hb : in32 b) : Int32.ofInt a = Int32.ofInt b ↔ a = b := by
  constructor
  · intro h
    have := congrArg Int32.toInt h
    rwa [k3i_rt ha, k3i_rt hb] at this
  · intro h; rw [h]
theorem k3i_lt {a b : Int} (ha : in32 a) (hb : in32 b) : Int32.ofInt a < Int32.ofInt b ↔ a < b := by rw [Int32.lt_iff_toInt_lt, k3i_rt ha, k3i_rt hb]
theorem k3i_le {a b : Int} (ha : in32 a) (hb : in32 b) : Int32.ofInt a ≤ Int32.ofInt b ↔ a ≤ b := by rw [Int32.le_iff_toInt_le, k3i_rt ha, k3i_rt hb]
theorem k3l_lt {a b : Int} (ha : in64 a) (hb : in64 b) : Int64.ofInt a < Int64.ofInt b ↔ a < b := by rw [Int64.lt_iff_toInt_lt, k3l_rt ha, k3l_rt hb]
theorem k3l_eq {a b : Int} (ha : in64 a) (hb : in64 b) : Int64.ofInt a = Int64.ofInt b ↔ a = b := by
  constructor
  · intro h
    have := congrArg Int64.toInt h
    rwa [k3l_rt ha, k3l_rt hb] at this
  · intro h; rw [h]
theorem in32_0 : in32 0 := by unfold in32; omega
theorem k3i_z : (0 : Int32) = Int32.ofInt 0 := rfl
theorem k3i_div {a b : Int} (ha : in32 a) (hb : in32 b) : Int32.ofInt a / Int32.ofInt b = Int32.ofInt (w32 (a.tdiv b)) := by
  rw [w32_toInt, k3i_back]
  apply Int32.toInt_inj.mp
  rw [Int32.toInt_div, k3i_rt ha, k3i_rt hb, Int32.toInt_ofInt]
theorem k3l_div {a b : Int} (ha : in64 a) (hb : in64 b) : Int64.ofInt a / Int64.ofInt b = Int64.ofInt (w64 (a.tdiv b)) := by
  rw [w64_toInt, k3l_back]
  apply Int64.toInt_inj.mp
  rw [Int64.toInt_div, k3l_rt ha, k3l_rt hb, Int64.toInt_ofInt]
theorem tmod_in32 {a b : Int} (ha : in32 a) (hb : in32 b) (h0 : ¬ b = 0) : in32 (a.tmod b) := by
  have h1 : (Int32.ofInt a % Int32.ofInt b).toInt = a.tmod b := by rw [Int32.toInt_mod, k3i_rt ha, k3i_rt hb]
  rw [← h1]; exact k3i_in _
theorem tmod_in64 {a b : Int} (ha : in64 a) (hb : in64 b) (h0 : ¬ b = 0) : in64 (a.tmod b) := by
  have h1 : (Int64.ofInt a % Int64.ofInt b).toInt = a.tmod b := by rw [Int64.toInt_mod, k3l_rt ha, k3l_rt hb]
  rw [← h1]; exact k3l_in _
theorem k3i_rem {a b : Int} (ha : in32 a) (hb : in32 b) (h0 : ¬ b = 0) : Int32.ofInt a - Int32.ofInt a / Int32.ofInt b * Int32.ofInt b = Int32.ofInt (a.tmod b) := by
  apply Int32.toInt_inj.mp
  rw [rem_toInt, k3i_rt ha, k3i_rt hb, k3i_rt (tmod_in32 ha hb h0)]
theorem k3l_rem {a b : Int} (ha : in64 a) (hb : in64 b) (h0 : ¬ b = 0) : Int64.ofInt a - Int64.ofInt a / Int64.ofInt b * Int64.ofInt b = Int64.ofInt (a.tmod b) := by
  apply Int64.toInt_inj.mp
  rw [Jvm.Kit.i64_rem, k3l_rt ha, k3l_rt hb, k3l_rt (tmod_in64 ha hb h0)]
theorem i2l_of {a : Int} (ha : in32 a) : (Int32.ofInt a).toInt64 = Int64.ofInt a := by
  apply Int64.toInt_inj.mp
  rw [Int32.toInt_toInt64, k3i_rt ha, k3l_rt]
  unfold in32 at ha; unfold in64; omega
theorem l2i_of (a : Int) : (Int64.ofInt a).toInt32 = Int32.ofInt (w32 a) := by
  rw [w32_of]; exact Int64.toInt32_ofInt
theorem in32_64 {x : Int} (h : in32 x) : in64 x := by unfold in32 at h; unfold in64; omega
theorem cmp3_of {a b : Int} (ha : in64 a) (hb : in64 b) : lg_cmp (Int64.ofInt a) (Int64.ofInt b) = Int32.ofInt (cmp3 a b) := by
  unfold lg_cmp cmp3
  by_cases h1 : a < b
  · rw [if_pos h1, if_neg (fun h => by have := (k3l_lt hb ha).mp h; omega), if_neg (fun h => by have := (k3l_eq ha hb).mp h; omega)]; rfl
  · by_cases h2 : a = b
    · subst h2
      rw [if_neg h1, if_pos rfl, if_neg (fun h => h1 ((k3l_lt ha ha).mp h)), if_pos rfl]; rfl
    · rw [if_neg h1, if_neg h2, if_pos ((k3l_lt hb ha).mpr (by omega))]; rfl
theorem cmp3_in (a b : Int) : in32 (cmp3 a b) := by
  unfold cmp3 in32
  split
  · omega
  · split <;> omega
theorem ix_nat {j : Int} (h : in32 j) : (Int32.ofInt j).toNatClampNeg = j.toNat := by rw [Int32.toNatClampNeg, k3i_rt h]
theorem ix_in {j : Int} (h : in32 j) {n : Nat} (h0 : 0 ≤ j) (h1 : j < n) : vp_in (Int32.ofInt j) n := by rw [vp_in_iff, k3i_rt h]; exact ⟨h0, h1⟩
theorem mx32 {a b : Int} (ha : in32 a) (hb : in32 b) : (if Int32.ofInt a < Int32.ofInt b then Int32.ofInt b else Int32.ofInt a) = Int32.ofInt (max a b) := by
  by_cases h : a < b
  · rw [if_pos ((k3i_lt ha hb).mpr h), Int.max_eq_right (by omega)]
  · rw [if_neg (fun q => h ((k3i_lt ha hb).mp q)), Int.max_eq_left (by omega)]
theorem mn32 {a b : Int} (ha : in32 a) (hb : in32 b) : (if Int32.ofInt b < Int32.ofInt a then Int32.ofInt b else Int32.ofInt a) = Int32.ofInt (min a b) := by
  by_cases h : b < a
  · rw [if_pos ((k3i_lt hb ha).mpr h), Int.min_eq_right (by omega)]
  · rw [if_neg (fun q => h ((k3i_lt hb ha).mp q)), Int.min_eq_left (by omega)]
theorem mx64 {a b : Int} (ha : in64 a) (hb : in64 b) : (if Int64.ofInt b < Int64.ofInt a then Int64.ofInt a else Int64.ofInt b) = Int64.ofInt (max a b) := by
  by_cases h : b < a
  · rw [if_pos ((k3l_lt hb ha).mpr h), Int.max_eq_left (by omega)]
  · rw [if_neg (fun q => h ((k3l_lt hb ha).mp q)), Int.max_eq_right (by omega)]
theorem mxin32 {a b : Int} (ha : in32 a) (hb : in32 b) : in32 (max a b) := by unfold in32 at *; omega
theorem mnin32 {a b : Int} (ha : in32 a) (hb : in32 b) : in32 (min a b) := by unfold in32 at *; omega
theorem mxin64 {a b : Int} (ha : in64 a) (hb : in64 b) : in64 (max a b) := by unfold in64 at *; omega
theorem mnin64 {a b : Int} (ha : in64 a) (hb : in64 b) : in64 (min a b) := by unfold in64 at *; omega
theorem ubf_self (w : Wd) (h : Nat) (f : Nat → Int) : ubf w h f h = f := by unfold ubf; rw [if_pos rfl]
theorem ubf_ne {w : Wd} {h h' : Nat} (f : Nat → Int) (q : ¬ h' = h) : ubf w h f h' = w h' := by unfold ubf; rw [if_neg q]
theorem ub_ubf (w : Wd) (h j : Nat) (x : Int) : ub w h j x = ubf w h (up1 (w h) j x) := rfl
theorem ub_ne {w : Wd} {h h' : Nat} (j : Nat) (x : Int) (q : ¬ h' = h) : ub w h j x h' = w h' := ubf_ne _ q
theorem ub_self (w : Wd) (h j : Nat) (x : Int) : ub w h j x h = up1 (w h) j x := ubf_self _ _ _
theorem up1_self (f : Nat → Int) (j : Nat) (x : Int) : up1 f j x j = x := by unfold up1; rw [if_pos rfl]
theorem up1_ne {f : Nat → Int} {i j : Nat} (x : Int) (q : ¬ j = i) : up1 f i x j = f j := by unfold up1; rw [if_neg q]
