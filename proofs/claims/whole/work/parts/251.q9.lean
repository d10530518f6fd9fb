def RfD (v146 v161 v163 : Nat → Int) (U W : Nat) (wo : Nat → Nat) (adj : Nat → Nat → Bool) (co pa : Nat → Nat → Nat) : Prop := (U ≤ 16) ∧ (W ≤ 8) ∧ (v146 2 = U) ∧ (v146 3 = W) ∧ (∀ v, v < W → v146 (111 + 4 * v) = wo v ∧ wo v ≤ 999) ∧ (∀ u v, adj u v = true → u < U ∧ v < W) ∧ (∀ u v, u < U → v < W → adj u v = false → 1000000000 ≤ v161 (8 * u + v)) ∧ (∀ u v, u < U → v < W → adj u v = true → v161 (8 * u + v) = co u v ∧ co u v ≤ 5000 ∧ v163 (8 * u + v) = pa u v ∧ pa u v ≤ 5000)
theorem RfD.mk {v146 v161 v163 : Nat → Int} {U W : Nat} {wo : Nat → Nat} {adj : Nat → Nat → Bool} {co pa : Nat → Nat → Nat} (hU_ : U ≤ 16) (hW_ : W ≤ 8) (un_ : v146 2 = U) (wa_ : v146 3 = W) (wor_ : ∀ v, v < W → v146 (111 + 4 * v) = wo v ∧ wo v ≤ 999) (ran_ : ∀ u v, adj u v = true → u < U ∧ v < W) (no_ : ∀ u v, u < U → v < W → adj u v = false → 1000000000 ≤ v161 (8 * u + v)) (yes_ : ∀ u v, u < U → v < W → adj u v = true → v161 (8 * u + v) = co u v ∧ co u v ≤ 5000 ∧ v163 (8 * u + v) = pa u v ∧ pa u v ≤ 5000) : RfD v146 v161 v163 U W wo adj co pa := And.intro hU_ (And.intro hW_ (And.intro un_ (And.intro wa_ (And.intro wor_ (And.intro ran_ (And.intro no_ (yes_)))))))
theorem RfD.hU {v146 v161 v163 : Nat → Int} {U W : Nat} {wo : Nat → Nat} {adj : Nat → Nat → Bool} {co pa : Nat → Nat → Nat} (h_ : RfD v146 v161 v163 U W wo adj co pa) : U ≤ 16 := h_.1
theorem RfD.hW {v146 v161 v163 : Nat → Int} {U W : Nat} {wo : Nat → Nat} {adj : Nat → Nat → Bool} {co pa : Nat → Nat → Nat} (h_ : RfD v146 v161 v163 U W wo adj co pa) : W ≤ 8 := h_.2.1
theorem RfD.un {v146 v161 v163 : Nat → Int} {U W : Nat} {wo : Nat → Nat} {adj : Nat → Nat → Bool} {co pa : Nat → Nat → Nat} (h_ : RfD v146 v161 v163 U W wo adj co pa) : v146 2 = U := h_.2.2.1
theorem RfD.wa {v146 v161 v163 : Nat → Int} {U W : Nat} {wo : Nat → Nat} {adj : Nat → Nat → Bool} {co pa : Nat → Nat → Nat} (h_ : RfD v146 v161 v163 U W wo adj co pa) : v146 3 = W := h_.2.2.2.1
theorem RfD.wor {v146 v161 v163 : Nat → Int} {U W : Nat} {wo : Nat → Nat} {adj : Nat → Nat → Bool} {co pa : Nat → Nat → Nat} (h_ : RfD v146 v161 v163 U W wo adj co pa) : ∀ v, v < W → v146 (111 + 4 * v) = wo v ∧ wo v ≤ 999 := h_.2.2.2.2.1
theorem RfD.ran {v146 v161 v163 : Nat → Int} {U W : Nat} {wo : Nat → Nat} {adj : Nat → Nat → Bool} {co pa : Nat → Nat → Nat} (h_ : RfD v146 v161 v163 U W wo adj co pa) : ∀ u v, adj u v = true → u < U ∧ v < W := h_.2.2.2.2.2.1
theorem RfD.no {v146 v161 v163 : Nat → Int} {U W : Nat} {wo : Nat → Nat} {adj : Nat → Nat → Bool} {co pa : Nat → Nat → Nat} (h_ : RfD v146 v161 v163 U W wo adj co pa) : ∀ u v, u < U → v < W → adj u v = false → 1000000000 ≤ v161 (8 * u + v) := h_.2.2.2.2.2.2.1
theorem RfD.yes {v146 v161 v163 : Nat → Int} {U W : Nat} {wo : Nat → Nat} {adj : Nat → Nat → Bool} {co pa : Nat → Nat → Nat} (h_ : RfD v146 v161 v163 U W wo adj co pa) : ∀ u v, u < U → v < W → adj u v = true → v161 (8 * u + v) = co u v ∧ co u v ≤ 5000 ∧ v163 (8 * u + v) = pa u v ∧ pa u v ≤ 5000 := h_.2.2.2.2.2.2.2
theorem RfD.ha {v146 v161 v163 : Nat → Int} {U W : Nat} {wo : Nat → Nat} {adj : Nat → Nat → Bool} {co pa : Nat → Nat → Nat} (h : RfD v146 v161 v163 U W wo adj co pa) (u v : Nat) (hu : u < U) (hv : v < W) : v161 (8 * u + v) < 1000000000 ↔ adj u v = true := by
  cases z : adj u v
  · have := h.no u v hu hv z
    constructor
    · intro q; omega
    · intro q; cases q
  · have := h.yes u v hu hv z
    exact ⟨fun _ => rfl, fun _ => by omega⟩
theorem S_seventeen {d : Nat} {Q : MV → Wd → Prop} {w : Wd} (v : Nat) (hv : v < 8) (k : Q (mL ((17 ^ (7 - v) : Nat) : Int)) w) : Cw (d + 1) 229 [mI v] w Q := by
  apply M_seventeen_en
  intro n1
  have lp : ∀ (r i : Nat), i + r = 7 → v ≤ i → Wp (Cw (d + 0)) cd_M_seventeen (3, 0, n1) Q 4 [none, mL ((17 ^ (i - v) : Nat) : Int), none, mI i] [] w := by
    intro r
    induction r with
    | zero =>
      intro i hi hvi
      have : i = 7 := by omega
      subst this
      apply M_seventeen_c4
      (repeat' (apply spl <;> intro))
      · exact k
      · exfalso; omega
    | succ r ih =>
      intro i hi hvi
      have ih := ih (i + 1) (by omega) (by omega)
      have b := Nat.pow_le_pow_right (n := 17) (by omega) (show i - v ≤ 7 by omega)
      rw [show (17 : Nat) ^ 7 = 410338673 from rfl] at b
      rw [show i + 1 - v = (i - v) + 1 by omega, Nat.pow_succ, Nat.mul_comm] at ih
      generalize 17 ^ (i - v) = e at *
      apply M_seventeen_c4
      rw [ixs (by omega), w64_id (by unfold in64; omega)]
      (repeat' (apply spl <;> intro))
      · exfalso; omega
      · exact ih
  have := lp (7 - v) v (by omega) (Nat.le_refl _)
  rw [Nat.sub_self] at this
  exact this
theorem val_digA {f : Nat → Nat} (b : Int) (h : ∀ w, f w ≤ 16) : val (digc b) f = dig b f 8 := by
  have e : ∀ w, (if f w = 0 then (0 : Int) else digc b (16 - f w) w) = f w * pw b w := by
    intro w
    by_cases q : f w = 0
    · rw [if_pos q, q]; simp
    · rw [if_neg q]
      have := h w
      unfold digc
      rw [show 16 - (16 - f w) = f w by omega]
  unfold val
  rw [sumZ_ext (fun i _ => e i)]
  simp only [sumZ, dig, pw]
  simp only [show (7 - 0 : Nat) = 7 from rfl, show (7 - 1 : Nat) = 6 from rfl, show (7 - 2 : Nat) = 5 from rfl, show (7 - 3 : Nat) = 4 from rfl, show (7 - 4 : Nat) = 3 from rfl, show (7 - 5 : Nat) = 2 from rfl, show (7 - 6 : Nat) = 1 from rfl, show (7 - 7 : Nat) = 0 from rfl]
  simp only [Int.pow_succ, Int.pow_zero, Int.one_mul, Int.zero_mul, Int.zero_add, Int.mul_one]
  simp only [Int.add_mul, Int.mul_assoc]
theorem putF_le {g : Nat → Nat} {w d : Nat} (hg : ∀ w, g w ≤ 16) (hd : d ≤ 16) (v : Nat) : putF g w d v ≤ 16 := by
  unfold putF
  split
  · exact hd
  · exact hg v
theorem dig17_put {g : Nat → Nat} {w d : Nat} (hg : ∀ w, g w ≤ 16) (hd : d ≤ 16) (hd0 : d ≠ 0) (hw : w < 8) (h0 : g w = 0) : dig 17 (putF g w d) 8 = dig 17 g 8 + ((d * 17 ^ (7 - w) : Nat) : Int) := by
  rw [← val_digA 17 hg, ← val_digA 17 (putF_le hg hd), val_put (digc 17) g w d hw h0 hd0]
  unfold digc pw
  rw [show 16 - (16 - d) = d by omega]
  simp only [Int.natCast_mul, Int.natCast_pow]
  rfl
theorem dig17_co {f : Nat → Nat} (hf : ∀ w, f w ≤ 16) : dig 17 (fun w => 16 - f w) 8 = 6975757440 - dig 17 f 8 := by
  have := hf 0
  have := hf 1
  have := hf 2
  have := hf 3
  have := hf 4
  have := hf 5
  have := hf 6
  have := hf 7
  simp only [dig]
  omega
theorem cnt_supp {f : Nat → Nat} {S : Nat} (hS : S < 256) (h : ∀ w, f w ≠ 0 ↔ S.testBit w = true) : cntS f = pop S := by
  rw [pop_cnt (k := 8) (by omega) (by omega)]
  unfold cntS val
  have e : ∀ n : Nat, sumZ n (fun w => if f w = 0 then (0 : Int) else (fun _ _ => (1 : Int)) (16 - f w) w) = (cntB n S.testBit : Int) := by
    intro n
    induction n with
    | zero => rfl
    | succ n ih =>
      show sumZ n _ + (if f n = 0 then (0 : Int) else 1) = ((cntB n S.testBit + (if S.testBit n then 1 else 0) : Nat) : Int)
      rw [ih]
      cases q : S.testBit n
      · have : f n = 0 := by
          apply Classical.byContradiction
          intro z
          have := (h n).mp z
          rw [q] at this; cases this
        rw [if_pos this]; simp
      · have := (h n).mpr q
        rw [if_neg this]; simp
  exact e 8
theorem net_bd {wo : Nat → Nat} {adj : Nat → Nat → Bool} {co pa : Nat → Nat → Nat} {v146 v161 v163 : Nat → Int} {U W k : Nat} (h : RfD v146 v161 v163 U W wo adj co pa) {f : Nat → Nat} (hf : valid W adj k f) (hk : k ≤ U) : -40000 ≤ netS (netD wo co) f ∧ netS (netD wo co) f ≤ 7992 := by
  have e : ∀ v, v < 8 → -5000 ≤ (if f v = 0 then (0 : Int) else netD wo co (16 - f v) v) ∧ (if f v = 0 then (0 : Int) else netD wo co (16 - f v) v) ≤ 999 := by
    intro v _
    by_cases q : f v = 0
    · rw [if_pos q]; omega
    · rw [if_neg q]
      obtain ⟨a, _, c, b⟩ := hf.1 v q
      have y := h.yes _ v (by omega) a b
      have z := h.wor v a
      unfold netD
      omega
  unfold netS val
  have h1 := sumZ_le (g := fun w => if f w = 0 then (0 : Int) else netD wo co (16 - f w) w) 999 (n := 8) (fun v hv => (e v hv).2)
  have h2 := sumZ_nonneg (g := fun w => (if f w = 0 then (0 : Int) else netD wo co (16 - f w) w) + 5000) (n := 8) (fun v hv => by have := (e v hv).1; omega)
  rw [sumZ_add (fun w => if f w = 0 then (0 : Int) else netD wo co (16 - f w) w) (fun _ => 5000) 8] at h2
  have h3 : sumZ 8 (fun _ => (5000 : Int)) = 40000 := rfl
  omega
/-- the table of the reference -/
def encR (a c : Int) : Option Int := if a = -1000000000 then none else some (a * 6975757441 + (6975757440 - c))
def TabR (W : Nat) (adj : Nat → Nat → Bool) (net : Nat → Nat → Int) (kk : Nat → Nat) (a c : Nat → Int) : Prop := ∀ S, S < 256 → Opt W adj (cR net) (kk S) S.testBit (encR (a S) (c S)) ∧ 0 ≤ c S ∧ c S ≤ 6975757440
theorem encR_some {a c v : Int} : encR a c = some v ↔ a ≠ -1000000000 ∧ v = a * 6975757441 + (6975757440 - c) := by
  unfold encR
  by_cases q : a = -1000000000
  · rw [if_pos q]; constructor
    · intro h; cases h
    · intro h; exact absurd q h.1
  · rw [if_neg q]; constructor
    · intro h; injection h with h; exact ⟨q, h.symm⟩
    · rintro ⟨_, h⟩; rw [h]
/-- an entry's own day -/
theorem tab_day {wo : Nat → Nat} {adj : Nat → Nat → Bool} {co pa : Nat → Nat → Nat} {v146 v161 v163 : Nat → Int} {U W k : Nat} (h : RfD v146 v161 v163 U W wo adj co pa) {S : Nat → Bool} {a c : Int} (ho : Opt W adj (cR (netD wo co)) k S (encR a c)) (hk : k ≤ U) (c0 : 0 ≤ c) (c1 : c ≤ 6975757440) (ha : a ≠ -1000000000) :
    ∃ f, valid W adj k f ∧ (∀ w, f w ≠ 0 ↔ S w = true) ∧ netS (netD wo co) f = a ∧ dig 17 f 8 = 6975757440 - c ∧ -40000 ≤ a ∧ a ≤ 7992 := by
  obtain ⟨f, f1, f2, f3⟩ := ho.2 _ (encR_some.mpr ⟨ha, rfl⟩)
  rw [val_cR (netD wo co) f1] at f3
  have l1 := dig17_hi (valid_le f1)
  have l2 := dig_lo (b := 17) (by omega) f 8
  have l3 := net_bd h f1 hk
  exact ⟨f, f1, f2, by omega, by omega, by omega, by omega⟩
