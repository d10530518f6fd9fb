/-! bits of an int -/
def tb (x : Int) (k : Nat) : Bool := (Int32.ofInt x).toBitVec.getLsbD k
theorem tb_and (a b : Int) (k : Nat) : tb (iand a b) k = (tb a k && tb b k) := by unfold tb iand; rw [k3i_back]; simp
theorem tb_or (a b : Int) (k : Nat) : tb (ior a b) k = (tb a k || tb b k) := by unfold tb ior; rw [k3i_back]; simp
theorem tb_xor (a b : Int) (k : Nat) : tb (ixor a b) k = (tb a k ^^ tb b k) := by unfold tb ixor; rw [k3i_back]; simp
theorem tb_hi (x : Int) (k : Nat) (h : 32 ≤ k) : tb x k = false := by unfold tb; exact BitVec.getLsbD_of_ge _ _ h
theorem tb_ext {a b : Int} (ha : in32 a) (hb : in32 b) (h : ∀ k, k < 32 → tb a k = tb b k) : a = b := by
  rw [← k3i_eq ha hb]
  apply Int32.toBitVec_inj.mp
  apply BitVec.eq_of_getLsbD_eq
  intro i hi; exact h i hi
theorem tb_zero (k : Nat) : tb 0 k = false := by
  show (0#32).getLsbD k = false
  simp
theorem tb_neg1 (k : Nat) : tb (-1) k = decide (k < 32) := by
  show (BitVec.ofInt 32 (-1)).getLsbD k = _
  have : BitVec.ofInt 32 (-1) = BitVec.allOnes 32 := by decide
  rw [this, BitVec.getLsbD_allOnes]
theorem tb_nat (n k : Nat) (hn : n < 4294967296) : tb (n : Int) k = n.testBit k := by
  have h : (Int32.ofInt (n : Int)).toBitVec = BitVec.ofNat 32 n := by
    show BitVec.ofInt 32 (n : Int) = _
    exact BitVec.ofInt_natCast ..
  unfold tb
  rw [h, BitVec.getLsbD_ofNat]
  by_cases q : k < 32
  · simp [q]
  · simp only [q, decide_false, Bool.false_and]
    symm; apply Nat.testBit_lt_two_pow
    exact Nat.lt_of_lt_of_le hn (by have := Nat.pow_le_pow_right (n := 2) (by omega) (show 32 ≤ k by omega); omega)
theorem i32_mod {k : Nat} (hk : k < 32) : (Int32.ofInt (k : Int)).toBitVec.smod 32 = BitVec.ofNat 32 k := by
  have : ∀ k : Fin 32, (Int32.ofInt ((k : Nat) : Int)).toBitVec.smod 32 = BitVec.ofNat 32 k := by decide
  exact this ⟨k, hk⟩
theorem i32_and31 {k : Nat} (hk : k < 32) : (Int32.ofInt (k : Int)) &&& 31 = Int32.ofInt (k : Int) := by
  have : ∀ k : Fin 32, (Int32.ofInt ((k : Nat) : Int)) &&& 31 = Int32.ofInt ((k : Nat) : Int) := by decide
  exact this ⟨k, hk⟩
theorem tb_shl (a : Int) (n k : Nat) (hn : n < 32) : tb (ishl a (n : Int)) k = (decide (k < 32) && decide (n ≤ k) && tb a (k - n)) := by
  unfold tb ishl
  rw [k3i_back, i32_and31 hn, Int32.toBitVec_shiftLeft, i32_mod hn]
  have : (BitVec.ofNat 32 n).toNat = n := by simp; omega
  rw [BitVec.shiftLeft_eq', this, BitVec.getLsbD_shiftLeft]
  by_cases q : n ≤ k <;> by_cases q2 : k < 32 <;> simp [q, q2] <;> omega
theorem tb_shr (a : Int) (n k : Nat) (hn : n < 32) (hk : k + n < 32) : tb (ishr a (n : Int)) k = tb a (n + k) := by
  unfold tb ishr
  rw [k3i_back, i32_and31 hn, Int32.toBitVec_shiftRight, i32_mod hn]
  have : (BitVec.ofNat 32 n).toNat = n := by simp; omega
  rw [BitVec.sshiftRight_eq', this, BitVec.getLsbD_sshiftRight]
  have h1 : k < 32 := by omega
  have h2 : n + k < 32 := by omega
  simp [h1, h2]
theorem iand_in (a b : Int) : in32 (iand a b) := k3i_in _
theorem ior_in (a b : Int) : in32 (ior a b) := k3i_in _
theorem ixor_in (a b : Int) : in32 (ixor a b) := k3i_in _
theorem ishl_in (a b : Int) : in32 (ishl a b) := k3i_in _
theorem ishr_in (a b : Int) : in32 (ishr a b) := k3i_in _
theorem tb_one (k : Nat) : tb 1 k = decide (k = 0) := by
  rw [show (1 : Int) = ((1 : Nat) : Int) from rfl, tb_nat 1 k (by omega)]
  cases k with
  | zero => rfl
  | succ k => rw [Nat.testBit_succ]; simp
/-- the last bit -/
theorem and1 (a : Int) : iand a 1 = if tb a 0 then 1 else 0 := by
  have h1 : in32 (if tb a 0 then (1 : Int) else 0) := by unfold in32; split <;> omega
  refine tb_ext (iand_in _ _) h1 ?_
  intro k hk
  rw [tb_and, tb_one]
  by_cases q : k = 0
  · subst q; by_cases z : tb a 0 <;> simp [z, tb_one, tb_zero]
  · by_cases z : tb a 0 <;> simp [z, q, tb_one, tb_zero]
theorem hasbit (a : Int) {n : Nat} (hn : n < 32) : iand (ishr a (n : Int)) 1 = if tb a n then 1 else 0 := by
  rw [and1, tb_shr a n 0 hn (by omega)]; rfl
theorem hasbit_i (a : Int) {i : Int} (h0 : 0 ≤ i) (h1 : i < 32) : iand (ishr a i) 1 = if tb a i.toNat then 1 else 0 := by
  have := hasbit a (n := i.toNat) (by omega)
  rwa [Int.toNat_of_nonneg h0] at this
theorem tb_bit {i : Int} (h0 : 0 ≤ i) (h1 : i < 32) (k : Nat) : tb (ishl 1 i) k = decide (k = i.toNat) := by
  have := tb_shl 1 i.toNat k (by omega)
  rw [Int.toNat_of_nonneg h0] at this
  rw [this, tb_one]
  by_cases q : k = i.toNat
  · subst q; simp; omega
  · simp [q]; omega
/-! frames: all cells but some are as they were -/
def Fr (C : List Nat) (w w' : Wd) : Prop := ∀ c, c ∉ C → w' c = w c
theorem Fr.rfl' (C : List Nat) (w : Wd) : Fr C w w := fun _ _ => rfl
theorem Fr.ub {C : List Nat} {w w' : Wd} (h : Fr C w w') {c i : Nat} {v : Int} (hc : c ∈ C) : Fr C w (ub w' c i v) := fun e he => by
  rw [ub_ne i v (fun q => he (by rw [q]; exact hc))]; exact h e he
theorem Fr.ubf {C : List Nat} {w w' : Wd} (h : Fr C w w') {c : Nat} {f : Nat → Int} (hc : c ∈ C) : Fr C w (ubf w' c f) := fun e he => by
  rw [ubf_ne f (fun q => he (by rw [q]; exact hc))]; exact h e he
theorem Fr.tr {C D : List Nat} {w w' w2 : Wd} (h : Fr C w w') (h2 : Fr D w' w2) (hs : ∀ c ∈ D, c ∈ C) : Fr C w w2 := fun e he => by
  rw [h2 e (fun q => he (hs e q)), h e he]
/-! the relation, on values -/
/-- letters as a code of base 27, and as a word of bytes -/
def f27 (L : List Int) : Int := L.foldl (fun v c => v * 27 + (c - 96)) 0
def f256 (L : List Int) : Int := L.foldl (fun v c => v * 256 + c) 0
def okL (L : List Int) : Prop := 1 ≤ L.length ∧ L.length ≤ 6 ∧ ∀ c ∈ L, 97 ≤ c ∧ c ≤ 122
def NameR (a b : Int) : Prop := ∃ L, okL L ∧ a = f27 L ∧ b = f256 L
abbrev RT (n m : Int) (t t' : Nat → Int) : Prop := (n = m) ∧ (0 ≤ m) ∧ (m ≤ 1040) ∧ (∀ i : Nat, i < 1040 → t i = iand (t' i) 255)
theorem RT.mk {n m : Int} {t t' : Nat → Int} (len_ : n = m) (lo_ : 0 ≤ m) (hi_ : m ≤ 1040) (oct_ : ∀ i : Nat, i < 1040 → t i = iand (t' i) 255) : RT n m t t' := ⟨len_, lo_, hi_, oct_⟩
theorem RT.len {n m : Int} {t t' : Nat → Int} (h_ : RT n m t t') : n = m := h_.1
theorem RT.lo {n m : Int} {t t' : Nat → Int} (h_ : RT n m t t') : 0 ≤ m := h_.2.1
theorem RT.hi {n m : Int} {t t' : Nat → Int} (h_ : RT n m t t') : m ≤ 1040 := h_.2.2.1
theorem RT.oct {n m : Int} {t t' : Nat → Int} (h_ : RT n m t t') : ∀ i : Nat, i < 1040 → t i = iand (t' i) 255 := h_.2.2.2
abbrev WS (s : Nat → Int) : Prop := (0 ≤ s 0 ∧ s 0 ≤ 8) ∧ (0 ≤ s 1 ∧ s 1 ≤ 6) ∧ (0 ≤ s 2 ∧ s 2 ≤ 16) ∧ (0 ≤ s 3 ∧ s 3 ≤ 8) ∧ (2 ≤ s 4 ∧ s 4 ≤ 6) ∧ (0 ≤ s 5 ∧ s 5 ≤ 3) ∧ (∀ p : Nat, p < 8 → 0 ≤ s (7 + p) ∧ s (7 + p) ≤ 9) ∧ (∀ p : Nat, p < 8 → 0 ≤ s (15 + p) ∧ s (15 + p) ≤ 99) ∧ (∀ k : Nat, (k : Int) < s 1 → 1 ≤ s (23 + k) ∧ s (23 + k) ≤ 48) ∧ (∀ u : Nat, (u : Int) < s 2 → 0 ≤ s (30 + 5 * u) ∧ s (30 + 5 * u) < s 1) ∧ (∀ u : Nat, (u : Int) < s 2 → 0 ≤ s (31 + 5 * u) ∧ s (31 + 5 * u) < s 0) ∧ (∀ u : Nat, (u : Int) < s 2 → s (32 + 5 * u) = -1 ∨ (0 ≤ s (32 + 5 * u) ∧ s (32 + 5 * u) < s 0 ∧ s (32 + 5 * u) ≠ s (31 + 5 * u))) ∧ (∀ u : Nat, (u : Int) < s 2 → 0 ≤ s (33 + 5 * u) ∧ s (33 + 5 * u) ≤ 47) ∧ (∀ u v : Nat, u ≤ v → (v : Int) < s 2 → 0 ≤ s (29 + 5 * u) ∧ s (29 + 5 * u) ≤ s (29 + 5 * v) ∧ s (29 + 5 * v) ≤ 2000) ∧ (∀ u v : Nat, u ≤ v → (v : Int) < s 2 → s (29 + 5 * u) = s (29 + 5 * v) → s (30 + 5 * u) = s (30 + 5 * v) ∧ s (31 + 5 * u) = s (31 + 5 * v) ∧ s (32 + 5 * u) = s (32 + 5 * v) ∧ s (33 + 5 * u) = s (33 + 5 * v)) ∧ (∀ k : Nat, (k : Int) < s 3 → 0 ≤ s (109 + 4 * k) ∧ s (109 + 4 * k) < s 0) ∧ (∀ k : Nat, (k : Int) < s 3 → 0 ≤ s (110 + 4 * k) ∧ s (110 + 4 * k) < s 1) ∧ (∀ k : Nat, (k : Int) < s 3 → 0 ≤ s (111 + 4 * k) ∧ s (111 + 4 * k) ≤ 999) ∧ (∀ k : Nat, (k : Int) < s 3 → 0 ≤ s (112 + 4 * k) ∧ s (112 + 4 * k) ≤ 47) ∧ (∀ k : Nat, k < 64 → s (269 + k) = 0 ∨ s (269 + k) = 1) ∧ (∀ a b : Nat, a < 8 → b < 8 → s (269 + (8 * a + b)) = 1 → (a : Int) < s 0 ∧ (b : Int) < s 0 ∧ a ≠ b) ∧ (∀ k : Nat, k < 64 → 0 ≤ s (141 + k) ∧ s (141 + k) ≤ 99) ∧ (∀ k : Nat, k < 64 → 0 ≤ s (205 + k) ∧ s (205 + k) ≤ 9)
theorem WS.mk {s : Nat → Int} (pe_ : 0 ≤ s 0 ∧ s 0 ≤ 8) (so_ : 0 ≤ s 1 ∧ s 1 ≤ 6) (un_ : 0 ≤ s 2 ∧ s 2 ≤ 16) (wa_ : 0 ≤ s 3 ∧ s 3 ≤ 8) (la_ : 2 ≤ s 4 ∧ s 4 ≤ 6) (ba_ : 0 ≤ s 5 ∧ s 5 ≤ 3) (town_ : ∀ p : Nat, p < 8 → 0 ≤ s (7 + p) ∧ s (7 + p) ≤ 9) (ask_ : ∀ p : Nat, p < 8 → 0 ≤ s (15 + p) ∧ s (15 + p) ≤ 99) (life_ : ∀ k : Nat, (k : Int) < s 1 → 1 ≤ s (23 + k) ∧ s (23 + k) ≤ 48) (usort_ : ∀ u : Nat, (u : Int) < s 2 → 0 ≤ s (30 + 5 * u) ∧ s (30 + 5 * u) < s 1) (mak_ : ∀ u : Nat, (u : Int) < s 2 → 0 ≤ s (31 + 5 * u) ∧ s (31 + 5 * u) < s 0) (par_ : ∀ u : Nat, (u : Int) < s 2 → s (32 + 5 * u) = -1 ∨ (0 ≤ s (32 + 5 * u) ∧ s (32 + 5 * u) < s 0 ∧ s (32 + 5 * u) ≠ s (31 + 5 * u))) (uhour_ : ∀ u : Nat, (u : Int) < s 2 → 0 ≤ s (33 + 5 * u) ∧ s (33 + 5 * u) ≤ 47) (line_ : ∀ u v : Nat, u ≤ v → (v : Int) < s 2 → 0 ≤ s (29 + 5 * u) ∧ s (29 + 5 * u) ≤ s (29 + 5 * v) ∧ s (29 + 5 * v) ≤ 2000) (same_ : ∀ u v : Nat, u ≤ v → (v : Int) < s 2 → s (29 + 5 * u) = s (29 + 5 * v) → s (30 + 5 * u) = s (30 + 5 * v) ∧ s (31 + 5 * u) = s (31 + 5 * v) ∧ s (32 + 5 * u) = s (32 + 5 * v) ∧ s (33 + 5 * u) = s (33 + 5 * v)) (wwho_ : ∀ k : Nat, (k : Int) < s 3 → 0 ≤ s (109 + 4 * k) ∧ s (109 + 4 * k) < s 0) (wsort_ : ∀ k : Nat, (k : Int) < s 3 → 0 ≤ s (110 + 4 * k) ∧ s (110 + 4 * k) < s 1) (worth_ : ∀ k : Nat, (k : Int) < s 3 → 0 ≤ s (111 + 4 * k) ∧ s (111 + 4 * k) ≤ 999) (wby_ : ∀ k : Nat, (k : Int) < s 3 → 0 ≤ s (112 + 4 * k) ∧ s (112 + 4 * k) ≤ 47) (told_ : ∀ k : Nat, k < 64 → s (269 + k) = 0 ∨ s (269 + k) = 1) (tin_ : ∀ a b : Nat, a < 8 → b < 8 → s (269 + (8 * a + b)) = 1 → (a : Int) < s 0 ∧ (b : Int) < s 0 ∧ a ≠ b) (pai_ : ∀ k : Nat, k < 64 → 0 ≤ s (141 + k) ∧ s (141 + k) ≤ 99) (hou_ : ∀ k : Nat, k < 64 → 0 ≤ s (205 + k) ∧ s (205 + k) ≤ 9) : WS s := ⟨pe_, so_, un_, wa_, la_, ba_, town_, ask_, life_, usort_, mak_, par_, uhour_, line_, same_, wwho_, wsort_, worth_, wby_, told_, tin_, pai_, hou_⟩
theorem WS.pe {s : Nat → Int} (h_ : WS s) : 0 ≤ s 0 ∧ s 0 ≤ 8 := h_.1
theorem WS.so {s : Nat → Int} (h_ : WS s) : 0 ≤ s 1 ∧ s 1 ≤ 6 := h_.2.1
theorem WS.un {s : Nat → Int} (h_ : WS s) : 0 ≤ s 2 ∧ s 2 ≤ 16 := h_.2.2.1
theorem WS.wa {s : Nat → Int} (h_ : WS s) : 0 ≤ s 3 ∧ s 3 ≤ 8 := h_.2.2.2.1
theorem WS.la {s : Nat → Int} (h_ : WS s) : 2 ≤ s 4 ∧ s 4 ≤ 6 := h_.2.2.2.2.1
theorem WS.ba {s : Nat → Int} (h_ : WS s) : 0 ≤ s 5 ∧ s 5 ≤ 3 := h_.2.2.2.2.2.1
theorem WS.town {s : Nat → Int} (h_ : WS s) : ∀ p : Nat, p < 8 → 0 ≤ s (7 + p) ∧ s (7 + p) ≤ 9 := h_.2.2.2.2.2.2.1
theorem WS.ask {s : Nat → Int} (h_ : WS s) : ∀ p : Nat, p < 8 → 0 ≤ s (15 + p) ∧ s (15 + p) ≤ 99 := h_.2.2.2.2.2.2.2.1
theorem WS.life {s : Nat → Int} (h_ : WS s) : ∀ k : Nat, (k : Int) < s 1 → 1 ≤ s (23 + k) ∧ s (23 + k) ≤ 48 := h_.2.2.2.2.2.2.2.2.1
theorem WS.usort {s : Nat → Int} (h_ : WS s) : ∀ u : Nat, (u : Int) < s 2 → 0 ≤ s (30 + 5 * u) ∧ s (30 + 5 * u) < s 1 := h_.2.2.2.2.2.2.2.2.2.1
theorem WS.mak {s : Nat → Int} (h_ : WS s) : ∀ u : Nat, (u : Int) < s 2 → 0 ≤ s (31 + 5 * u) ∧ s (31 + 5 * u) < s 0 := h_.2.2.2.2.2.2.2.2.2.2.1
theorem WS.par {s : Nat → Int} (h_ : WS s) : ∀ u : Nat, (u : Int) < s 2 → s (32 + 5 * u) = -1 ∨ (0 ≤ s (32 + 5 * u) ∧ s (32 + 5 * u) < s 0 ∧ s (32 + 5 * u) ≠ s (31 + 5 * u)) := h_.2.2.2.2.2.2.2.2.2.2.2.1
theorem WS.uhour {s : Nat → Int} (h_ : WS s) : ∀ u : Nat, (u : Int) < s 2 → 0 ≤ s (33 + 5 * u) ∧ s (33 + 5 * u) ≤ 47 := h_.2.2.2.2.2.2.2.2.2.2.2.2.1
theorem WS.line {s : Nat → Int} (h_ : WS s) : ∀ u v : Nat, u ≤ v → (v : Int) < s 2 → 0 ≤ s (29 + 5 * u) ∧ s (29 + 5 * u) ≤ s (29 + 5 * v) ∧ s (29 + 5 * v) ≤ 2000 := h_.2.2.2.2.2.2.2.2.2.2.2.2.2.1
theorem WS.same {s : Nat → Int} (h_ : WS s) : ∀ u v : Nat, u ≤ v → (v : Int) < s 2 → s (29 + 5 * u) = s (29 + 5 * v) → s (30 + 5 * u) = s (30 + 5 * v) ∧ s (31 + 5 * u) = s (31 + 5 * v) ∧ s (32 + 5 * u) = s (32 + 5 * v) ∧ s (33 + 5 * u) = s (33 + 5 * v) := h_.2.2.2.2.2.2.2.2.2.2.2.2.2.2.1
theorem WS.wwho {s : Nat → Int} (h_ : WS s) : ∀ k : Nat, (k : Int) < s 3 → 0 ≤ s (109 + 4 * k) ∧ s (109 + 4 * k) < s 0 := h_.2.2.2.2.2.2.2.2.2.2.2.2.2.2.2.1
theorem WS.wsort {s : Nat → Int} (h_ : WS s) : ∀ k : Nat, (k : Int) < s 3 → 0 ≤ s (110 + 4 * k) ∧ s (110 + 4 * k) < s 1 := h_.2.2.2.2.2.2.2.2.2.2.2.2.2.2.2.2.1
theorem WS.worth {s : Nat → Int} (h_ : WS s) : ∀ k : Nat, (k : Int) < s 3 → 0 ≤ s (111 + 4 * k) ∧ s (111 + 4 * k) ≤ 999 := h_.2.2.2.2.2.2.2.2.2.2.2.2.2.2.2.2.2.1
theorem WS.wby {s : Nat → Int} (h_ : WS s) : ∀ k : Nat, (k : Int) < s 3 → 0 ≤ s (112 + 4 * k) ∧ s (112 + 4 * k) ≤ 47 := h_.2.2.2.2.2.2.2.2.2.2.2.2.2.2.2.2.2.2.1
theorem WS.told {s : Nat → Int} (h_ : WS s) : ∀ k : Nat, k < 64 → s (269 + k) = 0 ∨ s (269 + k) = 1 := h_.2.2.2.2.2.2.2.2.2.2.2.2.2.2.2.2.2.2.2.1
theorem WS.tin {s : Nat → Int} (h_ : WS s) : ∀ a b : Nat, a < 8 → b < 8 → s (269 + (8 * a + b)) = 1 → (a : Int) < s 0 ∧ (b : Int) < s 0 ∧ a ≠ b := h_.2.2.2.2.2.2.2.2.2.2.2.2.2.2.2.2.2.2.2.2.1
theorem WS.pai {s : Nat → Int} (h_ : WS s) : ∀ k : Nat, k < 64 → 0 ≤ s (141 + k) ∧ s (141 + k) ≤ 99 := h_.2.2.2.2.2.2.2.2.2.2.2.2.2.2.2.2.2.2.2.2.2.1
theorem WS.hou {s : Nat → Int} (h_ : WS s) : ∀ k : Nat, k < 64 → 0 ≤ s (205 + k) ∧ s (205 + k) ≤ 9 := h_.2.2.2.2.2.2.2.2.2.2.2.2.2.2.2.2.2.2.2.2.2.2
abbrev WP (s : Nat → Int) : Prop := (0 ≤ s 333 ∧ s 333 ≤ 50) ∧ (∀ i : Nat, (i : Int) < s 333 → 0 ≤ s (334 + 3 * i) ∧ s (334 + 3 * i) ≤ 2) ∧ (∀ i : Nat, (i : Int) < s 333 → s (334 + 3 * i) = 2 → 0 ≤ s (335 + 3 * i) ∧ s (335 + 3 * i) ≤ 47) ∧ (∀ i : Nat, (i : Int) < s 333 → s (334 + 3 * i) ≠ 2 → 0 ≤ s (335 + 3 * i) ∧ s (335 + 3 * i) < s 2) ∧ (∀ i : Nat, (i : Int) < s 333 → s (334 + 3 * i) = 0 → 0 ≤ s (336 + 3 * i) ∧ s (336 + 3 * i) < s 0)
theorem WP.mk {s : Nat → Int} (acts_ : 0 ≤ s 333 ∧ s 333 ≤ 50) (what_ : ∀ i : Nat, (i : Int) < s 333 → 0 ≤ s (334 + 3 * i) ∧ s (334 + 3 * i) ≤ 2) (wait_ : ∀ i : Nat, (i : Int) < s 333 → s (334 + 3 * i) = 2 → 0 ≤ s (335 + 3 * i) ∧ s (335 + 3 * i) ≤ 47) (unit_ : ∀ i : Nat, (i : Int) < s 333 → s (334 + 3 * i) ≠ 2 → 0 ≤ s (335 + 3 * i) ∧ s (335 + 3 * i) < s 2) (whom_ : ∀ i : Nat, (i : Int) < s 333 → s (334 + 3 * i) = 0 → 0 ≤ s (336 + 3 * i) ∧ s (336 + 3 * i) < s 0) : WP s := ⟨acts_, what_, wait_, unit_, whom_⟩
theorem WP.acts {s : Nat → Int} (h_ : WP s) : 0 ≤ s 333 ∧ s 333 ≤ 50 := h_.1
theorem WP.what {s : Nat → Int} (h_ : WP s) : ∀ i : Nat, (i : Int) < s 333 → 0 ≤ s (334 + 3 * i) ∧ s (334 + 3 * i) ≤ 2 := h_.2.1
theorem WP.wait {s : Nat → Int} (h_ : WP s) : ∀ i : Nat, (i : Int) < s 333 → s (334 + 3 * i) = 2 → 0 ≤ s (335 + 3 * i) ∧ s (335 + 3 * i) ≤ 47 := h_.2.2.1
theorem WP.unit {s : Nat → Int} (h_ : WP s) : ∀ i : Nat, (i : Int) < s 333 → s (334 + 3 * i) ≠ 2 → 0 ≤ s (335 + 3 * i) ∧ s (335 + 3 * i) < s 2 := h_.2.2.2.1
theorem WP.whom {s : Nat → Int} (h_ : WP s) : ∀ i : Nat, (i : Int) < s 333 → s (334 + 3 * i) = 0 → 0 ≤ s (336 + 3 * i) ∧ s (336 + 3 * i) < s 0 := h_.2.2.2.2
def cntN (s : Nat → Int) (u : Int) : Nat → Nat
  | 0 => 0
  | n + 1 => cntN s u n + if s (485 + 4 * n) = u then 1 else 0
abbrev WB (s : Nat → Int) : Prop := (0 ≤ s 484 ∧ s 484 ≤ 40) ∧ (∀ i : Nat, (i : Int) < s 484 → 0 ≤ s (485 + 4 * i) ∧ s (485 + 4 * i) < s 2) ∧ (∀ i : Nat, (i : Int) < s 484 → 0 ≤ s (486 + 4 * i) ∧ s (486 + 4 * i) < s 0) ∧ (∀ i : Nat, (i : Int) < s 484 → 0 ≤ s (487 + 4 * i) ∧ s (487 + 4 * i) < s 0) ∧ (∀ i : Nat, (i : Int) < s 484 → 0 ≤ s (488 + 4 * i) ∧ s (488 + 4 * i) ≤ 47) ∧ (∀ u : Int, cntN s u (s 484).toNat ≤ 8)
theorem WB.mk {s : Nat → Int} (notes_ : 0 ≤ s 484 ∧ s 484 ≤ 40) (unit_ : ∀ i : Nat, (i : Int) < s 484 → 0 ≤ s (485 + 4 * i) ∧ s (485 + 4 * i) < s 2) (from'_ : ∀ i : Nat, (i : Int) < s 484 → 0 ≤ s (486 + 4 * i) ∧ s (486 + 4 * i) < s 0) (to_ : ∀ i : Nat, (i : Int) < s 484 → 0 ≤ s (487 + 4 * i) ∧ s (487 + 4 * i) < s 0) (hour_ : ∀ i : Nat, (i : Int) < s 484 → 0 ≤ s (488 + 4 * i) ∧ s (488 + 4 * i) ≤ 47) (eight_ : ∀ u : Int, cntN s u (s 484).toNat ≤ 8) : WB s := ⟨notes_, unit_, from'_, to_, hour_, eight_⟩
theorem WB.notes {s : Nat → Int} (h_ : WB s) : 0 ≤ s 484 ∧ s 484 ≤ 40 := h_.1
theorem WB.unit {s : Nat → Int} (h_ : WB s) : ∀ i : Nat, (i : Int) < s 484 → 0 ≤ s (485 + 4 * i) ∧ s (485 + 4 * i) < s 2 := h_.2.1
theorem WB.from' {s : Nat → Int} (h_ : WB s) : ∀ i : Nat, (i : Int) < s 484 → 0 ≤ s (486 + 4 * i) ∧ s (486 + 4 * i) < s 0 := h_.2.2.1
theorem WB.to {s : Nat → Int} (h_ : WB s) : ∀ i : Nat, (i : Int) < s 484 → 0 ≤ s (487 + 4 * i) ∧ s (487 + 4 * i) < s 0 := h_.2.2.2.1
theorem WB.hour {s : Nat → Int} (h_ : WB s) : ∀ i : Nat, (i : Int) < s 484 → 0 ≤ s (488 + 4 * i) ∧ s (488 + 4 * i) ≤ 47 := h_.2.2.2.2.1
theorem WB.eight {s : Nat → Int} (h_ : WB s) : ∀ u : Int, cntN s u (s 484).toNat ≤ 8 := h_.2.2.2.2.2
abbrev RV (ob nm tw mt ak sn lv un ld wn pn hr : Nat → Int) (s names : Nat → Int) : Prop := (ob 0 = s 0) ∧ (ob 5 = s 1) ∧ (ob 8 = s 2) ∧ (ob 11 = s 3) ∧ (ob 15 = s 4) ∧ (ob 16 = s 5) ∧ (∀ p : Nat, (p : Int) < s 0 → tw p = s (7 + p)) ∧ (∀ p q : Nat, (p : Int) < s 0 → tb (mt p) q = decide ((q : Int) < s 0 ∧ s (7 + p) = s (7 + q))) ∧ (∀ p : Nat, (p : Int) < s 0 → ak p = s (15 + p)) ∧ (∀ k : Nat, (k : Int) < s 1 → lv k = s (23 + k)) ∧ (∀ u : Nat, (u : Int) < s 2 → un (5 * u) = s (30 + 5 * u)) ∧ (∀ u : Nat, (u : Int) < s 2 → un (5 * u + 1) = s (31 + 5 * u)) ∧ (∀ u : Nat, (u : Int) < s 2 → un (5 * u + 2) = s (32 + 5 * u)) ∧ (∀ u : Nat, (u : Int) < s 2 → un (5 * u + 3) = s (33 + 5 * u)) ∧ (∀ u : Nat, (u : Int) < s 2 → un (5 * u + 4) = s (33 + 5 * u) + s (23 + (s (30 + 5 * u)).toNat)) ∧ (∀ u : Nat, (u : Int) < s 2 → 0 ≤ ld u ∧ ld u ≤ u ∧ s (29 + 5 * (ld u).toNat) = s (29 + 5 * u) ∧ ∀ v : Nat, (v : Int) < ld u → s (29 + 5 * v) ≠ s (29 + 5 * u)) ∧ (∀ i : Nat, (i : Int) < 4 * s 3 → wn i = s (109 + i)) ∧ (∀ k : Nat, k < 64 → s (269 + k) = 1 → pn k = s (141 + k) ∧ hr k = s (205 + k)) ∧ (∀ k : Nat, k < 64 → s (269 + k) = 0 → pn k = -1) ∧ (∀ p : Nat, (p : Int) < s 0 → NameR (nm p) (names p)) ∧ (∀ k : Nat, (k : Int) < s 1 → NameR (sn k) (names (8 + k)))
theorem RV.mk {ob nm tw mt ak sn lv un ld wn pn hr : Nat → Int} {s names : Nat → Int} (people_ : ob 0 = s 0) (sorts_ : ob 5 = s 1) (units_ : ob 8 = s 2) (wants_ : ob 11 = s 3) (n_ : ob 15 = s 4) (back_ : ob 16 = s 5) (towns_ : ∀ p : Nat, (p : Int) < s 0 → tw p = s (7 + p)) (mates_ : ∀ p q : Nat, (p : Int) < s 0 → tb (mt p) q = decide ((q : Int) < s 0 ∧ s (7 + p) = s (7 + q))) (asks_ : ∀ p : Nat, (p : Int) < s 0 → ak p = s (15 + p)) (lives_ : ∀ k : Nat, (k : Int) < s 1 → lv k = s (23 + k)) (usort_ : ∀ u : Nat, (u : Int) < s 2 → un (5 * u) = s (30 + 5 * u)) (mak_ : ∀ u : Nat, (u : Int) < s 2 → un (5 * u + 1) = s (31 + 5 * u)) (par_ : ∀ u : Nat, (u : Int) < s 2 → un (5 * u + 2) = s (32 + 5 * u)) (uhour_ : ∀ u : Nat, (u : Int) < s 2 → un (5 * u + 3) = s (33 + 5 * u)) (spo_ : ∀ u : Nat, (u : Int) < s 2 → un (5 * u + 4) = s (33 + 5 * u) + s (23 + (s (30 + 5 * u)).toNat)) (lead_ : ∀ u : Nat, (u : Int) < s 2 → 0 ≤ ld u ∧ ld u ≤ u ∧ s (29 + 5 * (ld u).toNat) = s (29 + 5 * u) ∧ ∀ v : Nat, (v : Int) < ld u → s (29 + 5 * v) ≠ s (29 + 5 * u)) (want_ : ∀ i : Nat, (i : Int) < 4 * s 3 → wn i = s (109 + i)) (told_ : ∀ k : Nat, k < 64 → s (269 + k) = 1 → pn k = s (141 + k) ∧ hr k = s (205 + k)) (untold_ : ∀ k : Nat, k < 64 → s (269 + k) = 0 → pn k = -1) (pnames_ : ∀ p : Nat, (p : Int) < s 0 → NameR (nm p) (names p)) (snames_ : ∀ k : Nat, (k : Int) < s 1 → NameR (sn k) (names (8 + k))) : RV ob nm tw mt ak sn lv un ld wn pn hr s names := ⟨people_, sorts_, units_, wants_, n_, back_, towns_, mates_, asks_, lives_, usort_, mak_, par_, uhour_, spo_, lead_, want_, told_, untold_, pnames_, snames_⟩
theorem RV.people {ob nm tw mt ak sn lv un ld wn pn hr : Nat → Int} {s names : Nat → Int} (h_ : RV ob nm tw mt ak sn lv un ld wn pn hr s names) : ob 0 = s 0 := h_.1
theorem RV.sorts {ob nm tw mt ak sn lv un ld wn pn hr : Nat → Int} {s names : Nat → Int} (h_ : RV ob nm tw mt ak sn lv un ld wn pn hr s names) : ob 5 = s 1 := h_.2.1
theorem RV.units {ob nm tw mt ak sn lv un ld wn pn hr : Nat → Int} {s names : Nat → Int} (h_ : RV ob nm tw mt ak sn lv un ld wn pn hr s names) : ob 8 = s 2 := h_.2.2.1
theorem RV.wants {ob nm tw mt ak sn lv un ld wn pn hr : Nat → Int} {s names : Nat → Int} (h_ : RV ob nm tw mt ak sn lv un ld wn pn hr s names) : ob 11 = s 3 := h_.2.2.2.1
theorem RV.n {ob nm tw mt ak sn lv un ld wn pn hr : Nat → Int} {s names : Nat → Int} (h_ : RV ob nm tw mt ak sn lv un ld wn pn hr s names) : ob 15 = s 4 := h_.2.2.2.2.1
theorem RV.back {ob nm tw mt ak sn lv un ld wn pn hr : Nat → Int} {s names : Nat → Int} (h_ : RV ob nm tw mt ak sn lv un ld wn pn hr s names) : ob 16 = s 5 := h_.2.2.2.2.2.1
theorem RV.towns {ob nm tw mt ak sn lv un ld wn pn hr : Nat → Int} {s names : Nat → Int} (h_ : RV ob nm tw mt ak sn lv un ld wn pn hr s names) : ∀ p : Nat, (p : Int) < s 0 → tw p = s (7 + p) := h_.2.2.2.2.2.2.1
theorem RV.mates {ob nm tw mt ak sn lv un ld wn pn hr : Nat → Int} {s names : Nat → Int} (h_ : RV ob nm tw mt ak sn lv un ld wn pn hr s names) : ∀ p q : Nat, (p : Int) < s 0 → tb (mt p) q = decide ((q : Int) < s 0 ∧ s (7 + p) = s (7 + q)) := h_.2.2.2.2.2.2.2.1
theorem RV.asks {ob nm tw mt ak sn lv un ld wn pn hr : Nat → Int} {s names : Nat → Int} (h_ : RV ob nm tw mt ak sn lv un ld wn pn hr s names) : ∀ p : Nat, (p : Int) < s 0 → ak p = s (15 + p) := h_.2.2.2.2.2.2.2.2.1
theorem RV.lives {ob nm tw mt ak sn lv un ld wn pn hr : Nat → Int} {s names : Nat → Int} (h_ : RV ob nm tw mt ak sn lv un ld wn pn hr s names) : ∀ k : Nat, (k : Int) < s 1 → lv k = s (23 + k) := h_.2.2.2.2.2.2.2.2.2.1
theorem RV.usort {ob nm tw mt ak sn lv un ld wn pn hr : Nat → Int} {s names : Nat → Int} (h_ : RV ob nm tw mt ak sn lv un ld wn pn hr s names) : ∀ u : Nat, (u : Int) < s 2 → un (5 * u) = s (30 + 5 * u) := h_.2.2.2.2.2.2.2.2.2.2.1
theorem RV.mak {ob nm tw mt ak sn lv un ld wn pn hr : Nat → Int} {s names : Nat → Int} (h_ : RV ob nm tw mt ak sn lv un ld wn pn hr s names) : ∀ u : Nat, (u : Int) < s 2 → un (5 * u + 1) = s (31 + 5 * u) := h_.2.2.2.2.2.2.2.2.2.2.2.1
theorem RV.par {ob nm tw mt ak sn lv un ld wn pn hr : Nat → Int} {s names : Nat → Int} (h_ : RV ob nm tw mt ak sn lv un ld wn pn hr s names) : ∀ u : Nat, (u : Int) < s 2 → un (5 * u + 2) = s (32 + 5 * u) := h_.2.2.2.2.2.2.2.2.2.2.2.2.1
theorem RV.uhour {ob nm tw mt ak sn lv un ld wn pn hr : Nat → Int} {s names : Nat → Int} (h_ : RV ob nm tw mt ak sn lv un ld wn pn hr s names) : ∀ u : Nat, (u : Int) < s 2 → un (5 * u + 3) = s (33 + 5 * u) := h_.2.2.2.2.2.2.2.2.2.2.2.2.2.1
theorem RV.spo {ob nm tw mt ak sn lv un ld wn pn hr : Nat → Int} {s names : Nat → Int} (h_ : RV ob nm tw mt ak sn lv un ld wn pn hr s names) : ∀ u : Nat, (u : Int) < s 2 → un (5 * u + 4) = s (33 + 5 * u) + s (23 + (s (30 + 5 * u)).toNat) := h_.2.2.2.2.2.2.2.2.2.2.2.2.2.2.1
theorem RV.lead {ob nm tw mt ak sn lv un ld wn pn hr : Nat → Int} {s names : Nat → Int} (h_ : RV ob nm tw mt ak sn lv un ld wn pn hr s names) : ∀ u : Nat, (u : Int) < s 2 → 0 ≤ ld u ∧ ld u ≤ u ∧ s (29 + 5 * (ld u).toNat) = s (29 + 5 * u) ∧ ∀ v : Nat, (v : Int) < ld u → s (29 + 5 * v) ≠ s (29 + 5 * u) := h_.2.2.2.2.2.2.2.2.2.2.2.2.2.2.2.1
theorem RV.want {ob nm tw mt ak sn lv un ld wn pn hr : Nat → Int} {s names : Nat → Int} (h_ : RV ob nm tw mt ak sn lv un ld wn pn hr s names) : ∀ i : Nat, (i : Int) < 4 * s 3 → wn i = s (109 + i) := h_.2.2.2.2.2.2.2.2.2.2.2.2.2.2.2.2.1
theorem RV.told {ob nm tw mt ak sn lv un ld wn pn hr : Nat → Int} {s names : Nat → Int} (h_ : RV ob nm tw mt ak sn lv un ld wn pn hr s names) : ∀ k : Nat, k < 64 → s (269 + k) = 1 → pn k = s (141 + k) ∧ hr k = s (205 + k) := h_.2.2.2.2.2.2.2.2.2.2.2.2.2.2.2.2.2.1
theorem RV.untold {ob nm tw mt ak sn lv un ld wn pn hr : Nat → Int} {s names : Nat → Int} (h_ : RV ob nm tw mt ak sn lv un ld wn pn hr s names) : ∀ k : Nat, k < 64 → s (269 + k) = 0 → pn k = -1 := h_.2.2.2.2.2.2.2.2.2.2.2.2.2.2.2.2.2.2.1
theorem RV.pnames {ob nm tw mt ak sn lv un ld wn pn hr : Nat → Int} {s names : Nat → Int} (h_ : RV ob nm tw mt ak sn lv un ld wn pn hr s names) : ∀ p : Nat, (p : Int) < s 0 → NameR (nm p) (names p) := h_.2.2.2.2.2.2.2.2.2.2.2.2.2.2.2.2.2.2.2.1
theorem RV.snames {ob nm tw mt ak sn lv un ld wn pn hr : Nat → Int} {s names : Nat → Int} (h_ : RV ob nm tw mt ak sn lv un ld wn pn hr s names) : ∀ k : Nat, (k : Int) < s 1 → NameR (sn k) (names (8 + k)) := h_.2.2.2.2.2.2.2.2.2.2.2.2.2.2.2.2.2.2.2.2
abbrev RP (ob wt ut wm : Nat → Int) (s : Nat → Int) : Prop := (ob 0 = s 333) ∧ (∀ i : Nat, (i : Int) < s 333 → wt i = s (334 + 3 * i)) ∧ (∀ i : Nat, (i : Int) < s 333 → ut i = s (335 + 3 * i)) ∧ (∀ i : Nat, (i : Int) < s 333 → wm i = s (336 + 3 * i))
theorem RP.mk {ob wt ut wm : Nat → Int} {s : Nat → Int} (acts_ : ob 0 = s 333) (what_ : ∀ i : Nat, (i : Int) < s 333 → wt i = s (334 + 3 * i)) (unit_ : ∀ i : Nat, (i : Int) < s 333 → ut i = s (335 + 3 * i)) (whom_ : ∀ i : Nat, (i : Int) < s 333 → wm i = s (336 + 3 * i)) : RP ob wt ut wm s := ⟨acts_, what_, unit_, whom_⟩
theorem RP.acts {ob wt ut wm : Nat → Int} {s : Nat → Int} (h_ : RP ob wt ut wm s) : ob 0 = s 333 := h_.1
theorem RP.what {ob wt ut wm : Nat → Int} {s : Nat → Int} (h_ : RP ob wt ut wm s) : ∀ i : Nat, (i : Int) < s 333 → wt i = s (334 + 3 * i) := h_.2.1
theorem RP.unit {ob wt ut wm : Nat → Int} {s : Nat → Int} (h_ : RP ob wt ut wm s) : ∀ i : Nat, (i : Int) < s 333 → ut i = s (335 + 3 * i) := h_.2.2.1
theorem RP.whom {ob wt ut wm : Nat → Int} {s : Nat → Int} (h_ : RP ob wt ut wm s) : ∀ i : Nat, (i : Int) < s 333 → wm i = s (336 + 3 * i) := h_.2.2.2
abbrev RB (ob ut fr to hr : Nat → Int) (s : Nat → Int) : Prop := (ob 0 = s 484) ∧ (∀ i : Nat, (i : Int) < s 484 → ut i = s (485 + 4 * i)) ∧ (∀ i : Nat, (i : Int) < s 484 → fr i = s (486 + 4 * i)) ∧ (∀ i : Nat, (i : Int) < s 484 → to i = s (487 + 4 * i)) ∧ (∀ i : Nat, (i : Int) < s 484 → hr i = s (488 + 4 * i))
theorem RB.mk {ob ut fr to hr : Nat → Int} {s : Nat → Int} (notes_ : ob 0 = s 484) (unit_ : ∀ i : Nat, (i : Int) < s 484 → ut i = s (485 + 4 * i)) (from'_ : ∀ i : Nat, (i : Int) < s 484 → fr i = s (486 + 4 * i)) (to_ : ∀ i : Nat, (i : Int) < s 484 → to i = s (487 + 4 * i)) (hour_ : ∀ i : Nat, (i : Int) < s 484 → hr i = s (488 + 4 * i)) : RB ob ut fr to hr s := ⟨notes_, unit_, from'_, to_, hour_⟩
theorem RB.notes {ob ut fr to hr : Nat → Int} {s : Nat → Int} (h_ : RB ob ut fr to hr s) : ob 0 = s 484 := h_.1
theorem RB.unit {ob ut fr to hr : Nat → Int} {s : Nat → Int} (h_ : RB ob ut fr to hr s) : ∀ i : Nat, (i : Int) < s 484 → ut i = s (485 + 4 * i) := h_.2.1
theorem RB.from' {ob ut fr to hr : Nat → Int} {s : Nat → Int} (h_ : RB ob ut fr to hr s) : ∀ i : Nat, (i : Int) < s 484 → fr i = s (486 + 4 * i) := h_.2.2.1
theorem RB.to {ob ut fr to hr : Nat → Int} {s : Nat → Int} (h_ : RB ob ut fr to hr s) : ∀ i : Nat, (i : Int) < s 484 → to i = s (487 + 4 * i) := h_.2.2.2.1
theorem RB.hour {ob ut fr to hr : Nat → Int} {s : Nat → Int} (h_ : RB ob ut fr to hr s) : ∀ i : Nat, (i : Int) < s 484 → hr i = s (488 + 4 * i) := h_.2.2.2.2
