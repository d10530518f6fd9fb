/-! bits of natural numbers in the machine's words; sets as numbers -/
theorem nat31 {n : Nat} (h : n < 2147483648) : in32 (n : Int) := by unfold in32; omega
theorem pw31 {k : Nat} (h : k ≤ 30) : 2 ^ k < 2147483648 := by
  have := Nat.pow_le_pow_right (n := 2) (by omega) h
  omega
theorem ior_nat {a b : Nat} (ha : a < 2147483648) (hb : b < 2147483648) : ior (a : Int) (b : Int) = ((a ||| b : Nat) : Int) := by
  have h : a ||| b < 2147483648 := Nat.or_lt_two_pow (n := 31) ha hb
  refine tb_ext (ior_in _ _) (nat31 h) ?_
  intro k hk
  rw [tb_or, tb_nat _ _ (by omega), tb_nat _ _ (by omega), tb_nat _ _ (by omega), Nat.testBit_or]
theorem ixor_nat {a b : Nat} (ha : a < 2147483648) (hb : b < 2147483648) : ixor (a : Int) (b : Int) = ((a ^^^ b : Nat) : Int) := by
  have h : a ^^^ b < 2147483648 := Nat.xor_lt_two_pow (n := 31) ha hb
  refine tb_ext (ixor_in _ _) (nat31 h) ?_
  intro k hk
  rw [tb_xor, tb_nat _ _ (by omega), tb_nat _ _ (by omega), tb_nat _ _ (by omega), Nat.testBit_xor]
theorem ishl_nat {a n : Nat} (ha : a < 2147483648) (hn : n < 32) (h : a <<< n < 2147483648) : ishl (a : Int) (n : Int) = ((a <<< n : Nat) : Int) := by
  refine tb_ext (ishl_in _ _) (nat31 h) ?_
  intro k hk
  rw [tb_shl _ _ _ hn, tb_nat _ _ (by omega), tb_nat _ _ (by omega), Nat.testBit_shiftLeft]
  simp [hk]
theorem ishl1 {n : Nat} (hn : n ≤ 30) : ishl 1 (n : Int) = ((2 ^ n : Nat) : Int) := by
  have e : (1 <<< n : Nat) = 2 ^ n := Nat.one_shiftLeft n
  have := ishl_nat (a := 1) (n := n) (by omega) (by omega) (by rw [e]; exact pw31 hn)
  rw [e] at this
  exact this
theorem bit_nat {x k : Nat} (hx : x < 2147483648) (hk : k < 32) : iand (ishr (x : Int) (k : Int)) 1 = if x.testBit k then 1 else 0 := by
  rw [hasbit _ hk, tb_nat _ _ (by omega)]
theorem or_pow {S v : Nat} (h : S < 2 ^ v) : S ||| 2 ^ v = S + 2 ^ v := Nat.or_two_pow_eq_add_of_lt h
theorem tbit_or_pow (S v i : Nat) : (S ||| 2 ^ v).testBit i = (S.testBit i || decide (v = i)) := by
  rw [Nat.testBit_or, Nat.testBit_two_pow]
theorem tbit_xor_pow {S v : Nat} (h : S.testBit v = true) : (S ^^^ 2 ^ v).testBit = remB S.testBit v := by
  funext i
  unfold remB
  rw [Nat.testBit_xor, Nat.testBit_two_pow]
  by_cases e : v = i
  · subst e; rw [h]; simp
  · have : (i == v) = false := by simp; omega
    rw [this]; simp [e]
theorem xor_lt {S v : Nat} (h : S.testBit v = true) : S ^^^ 2 ^ v < S := by
  have h1 := tbit_xor_pow h
  have h2 : S ^^^ 2 ^ v ≤ S := Nat.le_of_testBit (fun i hi => by
    rw [h1] at hi; unfold remB at hi; rw [Bool.and_eq_true] at hi; exact hi.1)
  have h3 : S ^^^ 2 ^ v ≠ S := by
    intro e
    have := congrFun h1 v
    rw [e, h] at this
    unfold remB at this
    simp at this
  omega
/-- a set as a number -/
def toN : Nat → (Nat → Bool) → Nat
  | 0, _ => 0
  | n + 1, X => toN n X ||| (if X n then 2 ^ n else 0)
theorem toN_lt (X : Nat → Bool) : ∀ n : Nat, toN n X < 2 ^ n
  | 0 => by show 0 < 1; omega
  | n + 1 => by
    have h := toN_lt X n
    show toN n X ||| (if X n then 2 ^ n else 0) < 2 ^ (n + 1)
    have e : 2 ^ (n + 1) = 2 ^ n + 2 ^ n := by rw [Nat.pow_succ]; omega
    have p := Nat.two_pow_pos n
    refine Nat.or_lt_two_pow (by omega) ?_
    split <;> omega
theorem toN_bit (X : Nat → Bool) : ∀ (n i : Nat), (toN n X).testBit i = (decide (i < n) && X i)
  | 0, i => by show (0 : Nat).testBit i = _; simp
  | n + 1, i => by
    show (toN n X ||| (if X n then 2 ^ n else 0)).testBit i = _
    rw [Nat.testBit_or, toN_bit X n i]
    by_cases e : i = n
    · subst e
      cases q : X i
      · simp
      · simp [Nat.testBit_two_pow]
    · have : (if X n then 2 ^ n else 0 : Nat).testBit i = false := by
        cases q : X n
        · simp
        · simp [Nat.testBit_two_pow]; omega
      rw [this]
      by_cases h : i < n
      · simp [h]; intro _; omega
      · simp [h]; intro h2; omega
theorem toN_fun {X : Nat → Bool} {n : Nat} (h : ∀ i, X i = true → i < n) : (toN n X).testBit = X := by
  funext i
  rw [toN_bit]
  cases q : X i
  · simp
  · simp [h i q]
theorem tbit_lt {S n i : Nat} (h : S < 2 ^ n) (hi : S.testBit i = true) : i < n := by
  apply Classical.byContradiction
  intro c
  have := Nat.testBit_lt_two_pow (x := S) (i := i) (Nat.lt_of_lt_of_le h (Nat.pow_le_pow_right (by omega) (by omega)))
  rw [this] at hi; cases hi
/-- how many bits, by counting -/
theorem cntB_head (p : Nat → Bool) : ∀ n : Nat, cntB (n + 1) p = (if p 0 then 1 else 0) + cntB n (fun i => p (i + 1))
  | 0 => by show 0 + (if p 0 then 1 else 0) = (if p 0 then 1 else 0) + 0; omega
  | n + 1 => by
    show cntB (n + 1) p + (if p (n + 1) then 1 else 0) = (if p 0 then 1 else 0) + (cntB n (fun i => p (i + 1)) + (if p (n + 1) then 1 else 0))
    rw [cntB_head p n]; omega
theorem popgo_cnt : ∀ (f n : Nat), pop.go f n = cntB f n.testBit
  | 0, _ => rfl
  | f + 1, n => by
    rw [cntB_head]
    show n % 2 + pop.go f (n / 2) = _
    rw [popgo_cnt f (n / 2)]
    have e : (fun i => n.testBit (i + 1)) = (n / 2).testBit := by
      funext i; rw [Nat.testBit_succ]
    rw [e, Nat.testBit_zero]
    rcases Nat.mod_two_eq_zero_or_one n with q | q <;> simp [q]
theorem cntB_trim {p : Nat → Bool} {k : Nat} (h : ∀ i, k ≤ i → p i = false) : ∀ d : Nat, cntB (k + d) p = cntB k p
  | 0 => rfl
  | d + 1 => by
    show cntB (k + d) p + (if p (k + d) then 1 else 0) = _
    rw [cntB_trim h d, h (k + d) (by omega)]; rfl
theorem pop_cnt {n k : Nat} (hk : k ≤ 32) (hn : n < 2 ^ k) : pop n = cntB k n.testBit := by
  show pop.go 32 n = _
  rw [popgo_cnt]
  have := cntB_trim (p := n.testBit) (k := k) (fun i hi => by
    cases q : n.testBit i
    · rfl
    · have := tbit_lt hn q; omega) (32 - k)
  rw [show k + (32 - k) = 32 by omega] at this
  exact this
/-- the units around a set of wants -/
def arn (D : Nat → Nat) : Nat → Nat → Nat
  | 0, _ => 0
  | n + 1, S => arn D n S ||| (if S.testBit n then D n else 0)
theorem arn_bit (D : Nat → Nat) (S u : Nat) : ∀ n : Nat, (arn D n S).testBit u = nbB n (fun u w => (D w).testBit u) S.testBit u
  | 0 => by show (0 : Nat).testBit u = false; simp
  | n + 1 => by
    show (arn D n S ||| (if S.testBit n then D n else 0)).testBit u = (nbB n (fun u w => (D w).testBit u) S.testBit u || (S.testBit n && (D n).testBit u))
    rw [Nat.testBit_or, arn_bit D S u n]
    cases q : S.testBit n <;> simp
theorem arn_lt {D : Nat → Nat} {k : Nat} (h : ∀ w, D w < 2 ^ k) (S : Nat) : ∀ n : Nat, arn D n S < 2 ^ k
  | 0 => Nat.two_pow_pos k
  | n + 1 => by
    refine Nat.or_lt_two_pow (arn_lt h S n) ?_
    have := Nat.two_pow_pos k
    split
    · exact h n
    · exact this
theorem arn_or {D : Nat → Nat} {W S v : Nat} (hv : v < W) : arn D W (S ||| 2 ^ v) = arn D W S ||| D v := by
  apply Nat.eq_of_testBit_eq
  intro u
  rw [arn_bit, Nat.testBit_or, arn_bit]
  have e : ∀ a b : Bool, (a = true ↔ b = true) → a = b := by intro a b; cases a <;> cases b <;> simp
  apply e
  rw [Bool.or_eq_true, nbB_iff, nbB_iff]
  constructor
  · rintro ⟨w, a, b, c⟩
    rw [tbit_or_pow, Bool.or_eq_true, decide_eq_true_eq] at b
    rcases b with b | b
    · exact Or.inl ⟨w, a, b, c⟩
    · subst b; exact Or.inr c
  · rintro (⟨w, a, b, c⟩ | h)
    · exact ⟨w, a, by rw [tbit_or_pow, b]; rfl, c⟩
    · exact ⟨v, hv, by rw [tbit_or_pow]; simp, h⟩
theorem arn_zero (D : Nat → Nat) : ∀ n : Nat, arn D n 0 = 0
  | 0 => rfl
  | n + 1 => by
    show arn D n 0 ||| (if (0 : Nat).testBit n then D n else 0) = 0
    rw [arn_zero D n]; simp
/-- MOST, as a property -/
def IsMost (W : Nat) (adj : Nat → Nat → Bool) (U : Nat) (v : Nat) : Prop := (∀ X, mat W adj U X → cntB W X ≤ v) ∧ ∃ X, mat W adj U X ∧ cntB W X = v
theorem IsMost.uniq {W : Nat} {adj : Nat → Nat → Bool} {U v v' : Nat} (h : IsMost W adj U v) (h' : IsMost W adj U v') : v = v' := by
  obtain ⟨X, a, b⟩ := h.2
  obtain ⟨Y, c, d⟩ := h'.2
  have := h.1 Y c
  have := h'.1 X a
  omega
theorem isMost_lack {W : Nat} {adj : Nat → Nat → Bool} {U : Nat} {v : Nat} (h1 : ∀ Y : Nat → Bool, (∀ w, Y w = true → w < W) → cntB W Y + v ≤ cntB U (nbB W adj Y) + W) (h2 : ∃ Y : Nat → Bool, (∀ w, Y w = true → w < W) ∧ cntB W Y + v = cntB U (nbB W adj Y) + W) : IsMost W adj U v := by
  obtain ⟨Y, hY, eY⟩ := h2
  have up : ∀ X, mat W adj U X → cntB W X ≤ v := by
    intro X hX
    have a := mat_hall hX (fun i => X i && Y i) (fun w hw => by rw [Bool.and_eq_true] at hw; exact hw.1)
    have b : cntB U (nbB W adj (fun i => X i && Y i)) ≤ cntB U (nbB W adj Y) := cntB_mono (fun u _ hu => nbB_mono (fun w hw => by rw [Bool.and_eq_true] at hw; exact hw.2) u hu)
    have c := cntB_orand X Y W
    have d := cntB_le (fun i => X i || Y i) W
    omega
  have hv : v ≤ W := by
    have := h1 (fun _ => false) (fun w hw => by cases hw)
    rw [cntB_none (fun _ _ => rfl)] at this
    have z : cntB U (nbB W adj (fun _ => false)) = 0 := cntB_none (fun u _ => by
      cases q : nbB W adj (fun _ => false) u
      · rfl
      · rw [nbB_iff] at q; obtain ⟨_, _, q, _⟩ := q; cases q)
    omega
  refine ⟨up, ?_⟩
  obtain ⟨X, a, b, c⟩ := hall_lack (W := W) (adj := adj) (k := U) (X := fun w => decide (w < W)) (W - v) (fun w hw => by simpa using hw) (fun Y hY => by
    have := h1 Y (fun w hw => by simpa using hY w hw)
    omega)
  have e : cntB W (fun w => decide (w < W)) = W := cntB_all (fun i hi => by simp [hi])
  have := up X c
  exact ⟨X, c, by omega⟩
