/-! the day that is best: by sum, count and digits; removing what loses -/
def dig (b : Int) (f : Nat → Nat) : Nat → Int
  | 0 => 0
  | n + 1 => dig b f n * b + f n
theorem dig_cmp {f g : Nat → Nat} (hf : ∀ w, f w ≤ 16) (hg : ∀ w, g w ≤ 16) : ∀ n : Nat, (dig 17 f n < dig 17 g n → dig 32 f n < dig 32 g n) ∧ (dig 17 f n = dig 17 g n → dig 32 f n = dig 32 g n)
  | 0 => ⟨fun h => absurd h (by show ¬ ((0 : Int) < 0); omega), fun _ => rfl⟩
  | n + 1 => by
    obtain ⟨h1, h2⟩ := dig_cmp hf hg n
    have a := hf n
    have b := hg n
    show (dig 17 f n * 17 + f n < dig 17 g n * 17 + g n → dig 32 f n * 32 + f n < dig 32 g n * 32 + g n) ∧ (dig 17 f n * 17 + f n = dig 17 g n * 17 + g n → dig 32 f n * 32 + f n = dig 32 g n * 32 + g n)
    constructor
    · intro h
      by_cases q : dig 17 f n < dig 17 g n
      · have := h1 q; omega
      · have e : dig 17 f n = dig 17 g n := by omega
        have := h2 e; omega
    · intro h
      have e : dig 17 f n = dig 17 g n := by omega
      have := h2 e; omega
theorem dig_lo {b : Int} (hb : 0 ≤ b) (f : Nat → Nat) : ∀ n : Nat, 0 ≤ dig b f n
  | 0 => Int.le_refl _
  | n + 1 => by
    have h := Int.mul_nonneg (dig_lo hb f n) hb
    show 0 ≤ dig b f n * b + f n
    omega
theorem dig32_hi {f : Nat → Nat} (hf : ∀ w, f w ≤ 16) : dig 32 f 8 < 1099511627776 := by
  have := hf 0
  have := hf 1
  have := hf 2
  have := hf 3
  have := hf 4
  have := hf 5
  have := hf 6
  have := hf 7
  simp only [dig]
  omega
theorem dig17_hi {f : Nat → Nat} (hf : ∀ w, f w ≤ 16) : dig 17 f 8 ≤ 6975757440 := by
  have := hf 0
  have := hf 1
  have := hf 2
  have := hf 3
  have := hf 4
  have := hf 5
  have := hf 6
  have := hf 7
  simp only [dig]
  omega
/-- what is put below each worth's place -/
def pw (b : Int) (w : Nat) : Int := b ^ (7 - w)
def netS (net : Nat → Nat → Int) (f : Nat → Nat) : Int := val net f
def cntS (f : Nat → Nat) : Int := val (fun _ _ => 1) f
def digc (b : Int) : Nat → Nat → Int := fun u w => ((16 - u : Nat) : Int) * pw b w
theorem val_dig {W : Nat} {adj : Nat → Nat → Bool} {U : Nat} {f : Nat → Nat} (b : Int) (h : valid W adj U f) : val (digc b) f = dig b f 8 := by
  have e : ∀ w, (if f w = 0 then (0 : Int) else digc b (16 - f w) w) = f w * pw b w := by
    intro w
    by_cases q : f w = 0
    · rw [if_pos q, q]; simp
    · rw [if_neg q]
      have := (h.1 w q).2.1
      unfold digc
      rw [show 16 - (16 - f w) = f w by omega]
  unfold val
  rw [sumZ_ext (fun i _ => e i)]
  simp only [sumZ, dig, pw]
  simp only [show (7 - 0 : Nat) = 7 from rfl, show (7 - 1 : Nat) = 6 from rfl, show (7 - 2 : Nat) = 5 from rfl, show (7 - 3 : Nat) = 4 from rfl, show (7 - 4 : Nat) = 3 from rfl, show (7 - 5 : Nat) = 2 from rfl, show (7 - 6 : Nat) = 1 from rfl, show (7 - 7 : Nat) = 0 from rfl]
  simp only [Int.pow_succ, Int.pow_zero, Int.one_mul, Int.zero_mul, Int.zero_add, Int.mul_one]
  simp only [Int.add_mul, Int.mul_assoc]
def cL (net : Nat → Nat → Int) : Nat → Nat → Int := fun u w => (net u w * 16 + 1) * 1099511627776 + digc 32 u w
def cR (net : Nat → Nat → Int) : Nat → Nat → Int := fun u w => net u w * 6975757441 + digc 17 u w
theorem val_lin (a b : Nat → Nat → Int) (x : Int) (f : Nat → Nat) : val (fun u w => a u w * x + b u w) f = val a f * x + val b f := by
  unfold val
  rw [← sumZ_mul, ← sumZ_add]
  apply sumZ_ext
  intro w _
  by_cases q : f w = 0
  · simp [q]
  · simp [q]
theorem val_cL {W : Nat} {adj : Nat → Nat → Bool} {U : Nat} {f : Nat → Nat} (net : Nat → Nat → Int) (h : valid W adj U f) : val (cL net) f = (netS net f * 16 + cntS f) * 1099511627776 + dig 32 f 8 := by
  have e1 := val_lin (fun u w => net u w * 16 + 1) (digc 32) 1099511627776 f
  have e2 := val_lin net (fun _ _ => 1) 16 f
  unfold cL netS cntS
  rw [e1, e2, val_dig 32 h]
theorem val_cR {W : Nat} {adj : Nat → Nat → Bool} {U : Nat} {f : Nat → Nat} (net : Nat → Nat → Int) (h : valid W adj U f) : val (cR net) f = netS net f * 6975757441 + dig 17 f 8 := by
  have e1 := val_lin net (digc 17) 6975757441 f
  unfold cR netS
  rw [e1, val_dig 17 h]
theorem valid_le {W : Nat} {adj : Nat → Nat → Bool} {U : Nat} {f : Nat → Nat} (h : valid W adj U f) (w : Nat) : f w ≤ 16 := by
  by_cases q : f w = 0
  · omega
  · exact (h.1 w q).2.1
theorem cntS_bd (f : Nat → Nat) : 0 ≤ cntS f ∧ cntS f ≤ 8 := by
  unfold cntS val
  refine ⟨sumZ_nonneg (fun i _ => by show 0 ≤ (if f i = 0 then (0 : Int) else 1); split <;> omega), ?_⟩
  have := sumZ_le (g := fun w => if f w = 0 then (0 : Int) else (fun _ _ => (1 : Int)) (16 - f w) w) 1 (n := 8) (fun i _ => by show (if f i = 0 then (0 : Int) else 1) ≤ 1; split <;> omega)
  omega
def lexR (net : Nat → Nat → Int) (f g : Nat → Nat) : Prop := netS net f < netS net g ∨ (netS net f = netS net g ∧ (cntS f < cntS g ∨ (cntS f = cntS g ∧ dig 17 f 8 ≤ dig 17 g 8)))
theorem lexR_val {W : Nat} {adj adj' : Nat → Nat → Bool} {U : Nat} {f g : Nat → Nat} {net : Nat → Nat → Int} (hf : valid W adj U f) (hg : valid W adj' U g) (h : lexR net f g) : val (cL net) f ≤ val (cL net) g := by
  rw [val_cL net hf, val_cL net hg]
  have a1 := dig32_hi (valid_le hf)
  have a2 := dig_lo (b := 32) (by omega) f 8
  have b1 := dig32_hi (valid_le hg)
  have b2 := dig_lo (b := 32) (by omega) g 8
  have c1 := cntS_bd f
  have c2 := cntS_bd g
  have d := dig_cmp (valid_le hf) (valid_le hg) 8
  rcases h with h | ⟨h1, h | ⟨h2, h3⟩⟩
  · omega
  · omega
  · by_cases q : dig 17 f 8 < dig 17 g 8
    · have := d.1 q; omega
    · have := d.2 (by omega); omega
theorem valid_drop {W : Nat} {adj : Nat → Nat → Bool} {U : Nat} {f : Nat → Nat} (h : valid W adj U f) (w : Nat) : valid W adj U (putF f w 0) := by
  refine ⟨fun v hv => ?_, fun v u hv he => ?_⟩
  · by_cases z : v = w
    · exfalso; apply hv; unfold putF; rw [if_pos z]
    · have e : putF f w 0 v = f v := by unfold putF; rw [if_neg z]
      rw [e] at hv ⊢
      exact h.1 v hv
  · by_cases z : v = w
    · exfalso; apply hv; unfold putF; rw [if_pos z]
    · have e : putF f w 0 v = f v := by unfold putF; rw [if_neg z]
      rw [e] at hv he
      by_cases z2 : u = w
      · exfalso; apply hv; rw [he]; unfold putF; rw [if_pos z2]
      · have e2 : putF f w 0 u = f u := by unfold putF; rw [if_neg z2]
        rw [e2] at he
        exact h.2 v u hv he
theorem best_day {W : Nat} (hW : W ≤ 8) {adj : Nat → Nat → Bool} {U : Nat} {net : Nat → Nat → Int} {g : Nat → Nat} (hg : valid W adj U g) (hb : ∀ f, valid W adj U f → lexR net f g) :
    valid W (fun u w => adj u w && decide (0 ≤ net u w)) U g ∧ IsMax W (fun u w => adj u w && decide (0 ≤ net u w)) (cL net) U (val (cL net) g) := by
  have key : ∀ w, g w ≠ 0 → 0 ≤ net (16 - g w) w := by
    intro w hw
    apply Classical.byContradiction
    intro q
    have a := hg.1 w hw
    have h1 := hb _ (valid_drop hg w)
    have e : g = putF (putF g w 0) w (g w) := by
      funext v
      unfold putF
      by_cases z : v = w
      · rw [if_pos z, z]
      · rw [if_neg z, if_neg z]
    have h2 := val_put net (putF g w 0) w (g w) (by omega) (by unfold putF; rw [if_pos rfl]) hw
    rw [← e] at h2
    have h2 : netS net g = netS net (putF g w 0) + net (16 - g w) w := h2
    rcases h1 with h1 | ⟨h1, _⟩ <;> omega
  have hv : valid W (fun u w => adj u w && decide (0 ≤ net u w)) U g := by
    refine ⟨fun w hw => ?_, hg.2⟩
    obtain ⟨a, b, c, d⟩ := hg.1 w hw
    exact ⟨a, b, c, by simp [d, key w hw]⟩
  refine ⟨hv, fun f hf => ?_, g, hv, rfl⟩
  have hf' : valid W adj U f := by
    refine ⟨fun w hw => ?_, hf.2⟩
    obtain ⟨a, b, c, d⟩ := hf.1 w hw
    simp at d
    exact ⟨a, b, c, d.1⟩
  exact lexR_val hf' hg (hb f hf')
/-- what is read out of the greatest value -/
theorem top_read {W : Nat} {adj : Nat → Nat → Bool} {U : Nat} {net : Nat → Nat → Int} {g : Nat → Nat} (hg : valid W (fun u w => adj u w && decide (0 ≤ net u w)) U g) :
    0 ≤ netS net g ∧ val (cL net) g / 17592186044416 = netS net g ∧ val (cL net) g / 1099511627776 % 16 = cntS g ∧ ∀ w, w < 8 → val (cL net) g / (32 ^ (7 - w)) % 32 = g w := by
  have n0 : 0 ≤ netS net g := by
    unfold netS val
    apply sumZ_nonneg
    intro w _
    show 0 ≤ (if g w = 0 then (0 : Int) else net (16 - g w) w)
    by_cases q : g w = 0
    · rw [if_pos q]; omega
    · rw [if_neg q]
      have := (hg.1 w q).2.2.2
      simp at this
      exact this.2
  have c := cntS_bd g
  have a1 := dig32_hi (valid_le hg)
  have a2 := dig_lo (b := 32) (by omega) g 8
  refine ⟨n0, ?_, ?_, ?_⟩
  · rw [val_cL net hg]; omega
  · rw [val_cL net hg]; omega
  · intro w hw
    rw [val_cL net hg]
    have l := valid_le hg
    have := l 0
    have := l 1
    have := l 2
    have := l 3
    have := l 4
    have := l 5
    have := l 6
    have := l 7
    generalize netS net g * 16 + cntS g = T
    simp only [dig]
    rcases (show w = 0 ∨ w = 1 ∨ w = 2 ∨ w = 3 ∨ w = 4 ∨ w = 5 ∨ w = 6 ∨ w = 7 by omega) with q | q | q | q | q | q | q | q <;> subst q
    · rw [show (32 : Int) ^ (7 - 0) = 34359738368 from rfl]; omega
    · rw [show (32 : Int) ^ (7 - 1) = 1073741824 from rfl]; omega
    · rw [show (32 : Int) ^ (7 - 2) = 33554432 from rfl]; omega
    · rw [show (32 : Int) ^ (7 - 3) = 1048576 from rfl]; omega
    · rw [show (32 : Int) ^ (7 - 4) = 32768 from rfl]; omega
    · rw [show (32 : Int) ^ (7 - 5) = 1024 from rfl]; omega
    · rw [show (32 : Int) ^ (7 - 6) = 32 from rfl]; omega
    · rw [show (32 : Int) ^ (7 - 7) = 1 from rfl]; omega
/-- digits of base 17, from the last -/
theorem dig17_read {f : Nat → Nat} (hf : ∀ w, f w ≤ 16) (n : Nat) : dig 17 f (n + 1) % 17 = f n ∧ dig 17 f (n + 1) / 17 = dig 17 f n := by
  have := hf n
  show (dig 17 f n * 17 + f n) % 17 = f n ∧ (dig 17 f n * 17 + f n) / 17 = dig 17 f n
  omega
