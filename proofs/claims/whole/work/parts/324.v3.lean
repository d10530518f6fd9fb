theorem lor_byte {a c : Nat} (ha : a < 2 ^ 54) (hc : c < 256) : lor64 (lshl (a : Int) 8) (c : Int) = ((a * 256 + c : Nat) : Int) := by
  rw [show (8 : Int) = ((8 : Nat) : Int) from rfl, lshl_nat (by omega) (by omega)]
  unfold lor64
  show (Int64.ofInt ((a * 2 ^ 8 : Nat) : Int) ||| Int64.ofInt (c : Int)).toBitVec.toInt = _
  rw [Int64.toBitVec_or, i64bv, i64bv]
  have e : (BitVec.ofNat 64 (a * 2 ^ 8) ||| BitVec.ofNat 64 c).toNat = a * 256 + c := by
    rw [BitVec.toNat_or, BitVec.toNat_ofNat, BitVec.toNat_ofNat, Nat.mod_eq_of_lt (by omega), Nat.mod_eq_of_lt (by omega)]
    have := Nat.shiftLeft_add_eq_or_of_lt (b := c) (i := 8) (by omega) a
    rw [Nat.shiftLeft_eq] at this
    rw [← this]
  rw [bvInt (by rw [e]; omega), e]
theorem lor_byte_i {a c : Int} (ha : 0 ≤ a) (ha2 : a < 2 ^ 54) (hc : 0 ≤ c) (hc2 : c < 256) : lor64 (lshl a 8) c = a * 256 + c := by
  have := lor_byte (a := a.toNat) (c := c.toNat) (by omega) (by omega)
  rw [Int.toNat_of_nonneg ha, Int.toNat_of_nonneg hc] at this
  rw [this]; omega
theorem skF_two {t : Nat → Int} {R L : Nat} (h : R ≤ L) : ∀ m p, R - p = m → (skF t R (R - p) p < R → skF t L (L - p) p = skF t R (R - p) p) ∧ (R ≤ skF t R (R - p) p → R ≤ skF t L (L - p) p) := by
  intro m
  induction m with
  | zero =>
    intro p hm
    rw [hm]
    refine ⟨fun z => ?_, fun _ => ?_⟩
    · have z : p < R := z
      omega
    · have := skF_ge t L (L - p) p
      omega
  | succ m ih =>
    intro p hm
    by_cases z : isB (t p)
    · have := ih (p + 1) (by omega)
      rw [show R - p = (R - (p + 1)) + 1 by omega, show L - p = (L - (p + 1)) + 1 by omega, skF_go (by omega) z, skF_go (by omega) z]
      exact this
    · rw [skF_stop (fun y => z y.2), skF_stop (fun y => z y.2)]
      exact ⟨fun _ => rfl, fun _ => by omega⟩
theorem f256_bd {t : Nat → Int} {q : Nat} : ∀ n, (∀ j, j < n → isR (t (q + j))) → 0 ≤ f256 (sgF t q n) ∧ f256 (sgF t q n) < (256 : Int) ^ n
  | 0, _ => by
    show (0 : Int) ≤ 0 ∧ (0 : Int) < 256 ^ 0
    rw [Int.pow_zero]; omega
  | n + 1, h => by
    have h1 := f256_bd n (fun j hj => h j (by omega))
    have h2 := h n (by omega)
    unfold isR isS isD at h2
    show 0 ≤ f256 (sgF t q n ++ [t (q + n)]) ∧ f256 (sgF t q n ++ [t (q + n)]) < (256 : Int) ^ (n + 1)
    rw [f256_snoc, Int.pow_succ]
    omega
theorem f256_lt {t : Nat → Int} {q n : Nat} (hn : n ≤ 6) (h : ∀ j, j < n → isR (t (q + j))) : 0 ≤ f256 (sgF t q n) ∧ f256 (sgF t q n) < 281474976710656 := by
  have b := f256_bd (t := t) (q := q) n h
  have pn : 256 ^ n ≤ 281474976710656 := Nat.le_trans (Nat.pow_le_pow_right (by decide) hn) (by decide)
  have pe : (256 : Int) ^ n = ((256 ^ n : Nat) : Int) := by rw [Int.natCast_pow]; rfl
  rw [pe] at b
  generalize 256 ^ n = z at *
  omega
theorem nuF_lt {t : Nat → Int} {q n : Nat} (hn : n ≤ 3) (h : ∀ j, j < n → isR (t (q + j))) : 0 ≤ nuF t q n ∧ nuF t q n ≤ 9999 := by
  have h0 : 0 < n → isR (t q) := fun z => h 0 z
  have h1 : 1 < n → isR (t (q + 1)) := h 1
  have h2 : 2 < n → isR (t (q + 2)) := h 2
  unfold isR isS isD at h0 h1 h2
  rcases (show n = 0 ∨ n = 1 ∨ n = 2 ∨ n = 3 by omega) with e | e | e | e
  · subst e; show (0 : Int) ≤ 0 ∧ (0 : Int) ≤ 9999; omega
  · subst e; show 0 ≤ (0 : Int) * 10 + (t (q + 0) - 48) ∧ (0 : Int) * 10 + (t (q + 0) - 48) ≤ 9999
    have := h0 (by omega)
    rw [Nat.add_zero]
    omega
  · subst e; show 0 ≤ ((0 : Int) * 10 + (t (q + 0) - 48)) * 10 + (t (q + 1) - 48) ∧ ((0 : Int) * 10 + (t (q + 0) - 48)) * 10 + (t (q + 1) - 48) ≤ 9999
    have := h0 (by omega)
    have := h1 (by omega)
    rw [Nat.add_zero]
    omega
  · subst e; show 0 ≤ (((0 : Int) * 10 + (t (q + 0) - 48)) * 10 + (t (q + 1) - 48)) * 10 + (t (q + 2) - 48) ∧ (((0 : Int) * 10 + (t (q + 0) - 48)) * 10 + (t (q + 1) - 48)) * 10 + (t (q + 2) - 48) ≤ 9999
    have := h0 (by omega)
    have := h1 (by omega)
    have := h2 (by omega)
    rw [Nat.add_zero]
    omega
/-- the reference's token -/
def MdT (g : Nat → Int) (x : Tx) (p : Nat) : Prop := (g 12 = plF x p) ∧ (kdF x p = 0 → g 11 = 0) ∧ (kdF x p = 1 → g 11 = 4) ∧ (kdF x p = 2 → g 11 = 4) ∧ (kdF x p = 3 → g 11 = 3 ∧ g 14 = 59 ∧ g 4 = nxF x p) ∧ (kdF x p = 4 → g 11 = 2 ∧ g 14 = vnF x p ∧ g 4 = nxF x p) ∧ (kdF x p = 5 → g 11 = 1 ∧ g 17 = f256 (liF x p) ∧ g 4 = nxF x p)
theorem MdT.mk {g : Nat → Int} {x : Tx} {p : Nat} (pl_ : g 12 = plF x p) (k0_ : kdF x p = 0 → g 11 = 0) (k1_ : kdF x p = 1 → g 11 = 4) (k2_ : kdF x p = 2 → g 11 = 4) (k3_ : kdF x p = 3 → g 11 = 3 ∧ g 14 = 59 ∧ g 4 = nxF x p) (k4_ : kdF x p = 4 → g 11 = 2 ∧ g 14 = vnF x p ∧ g 4 = nxF x p) (k5_ : kdF x p = 5 → g 11 = 1 ∧ g 17 = f256 (liF x p) ∧ g 4 = nxF x p) : MdT g x p := And.intro pl_ (And.intro k0_ (And.intro k1_ (And.intro k2_ (And.intro k3_ (And.intro k4_ (k5_))))))
theorem MdT.pl {g : Nat → Int} {x : Tx} {p : Nat} (h_ : MdT g x p) : g 12 = plF x p := h_.1
theorem MdT.k0 {g : Nat → Int} {x : Tx} {p : Nat} (h_ : MdT g x p) : kdF x p = 0 → g 11 = 0 := h_.2.1
theorem MdT.k1 {g : Nat → Int} {x : Tx} {p : Nat} (h_ : MdT g x p) : kdF x p = 1 → g 11 = 4 := h_.2.2.1
theorem MdT.k2 {g : Nat → Int} {x : Tx} {p : Nat} (h_ : MdT g x p) : kdF x p = 2 → g 11 = 4 := h_.2.2.2.1
theorem MdT.k3 {g : Nat → Int} {x : Tx} {p : Nat} (h_ : MdT g x p) : kdF x p = 3 → g 11 = 3 ∧ g 14 = 59 ∧ g 4 = nxF x p := h_.2.2.2.2.1
theorem MdT.k4 {g : Nat → Int} {x : Tx} {p : Nat} (h_ : MdT g x p) : kdF x p = 4 → g 11 = 2 ∧ g 14 = vnF x p ∧ g 4 = nxF x p := h_.2.2.2.2.2.1
theorem MdT.k5 {g : Nat → Int} {x : Tx} {p : Nat} (h_ : MdT g x p) : kdF x p = 5 → g 11 = 1 ∧ g 17 = f256 (liF x p) ∧ g 4 = nxF x p := h_.2.2.2.2.2.2
/-- all bytes of a run are of the kind of its first -/
noncomputable def alF (x : Tx) (q n : Nat) : Int := @ite _ ((isS (x.t q) ∧ dgF x.t q n = 0) ∨ (¬ isS (x.t q) ∧ dgF x.t q n = n)) (Classical.propDecidable _) 1 0
noncomputable def smF (x : Tx) (q : Nat) : Int := @ite _ (isS (x.t q)) (Classical.propDecidable _) 1 0
theorem alF_s {x : Tx} {q n : Nat} (hs : isS (x.t q)) : alF x q n = if dgF x.t q n = 0 then 1 else 0 := by
  unfold alF
  by_cases z : dgF x.t q n = 0
  · rw [if_pos (Or.inl ⟨hs, z⟩), if_pos z]
  · rw [if_neg (fun y => y.elim (fun a => z a.2) (fun a => a.1 hs)), if_neg z]
theorem alF_d {x : Tx} {q n : Nat} (hs : ¬ isS (x.t q)) : alF x q n = if dgF x.t q n = n then 1 else 0 := by
  unfold alF
  by_cases z : dgF x.t q n = n
  · rw [if_pos (Or.inr ⟨hs, z⟩), if_pos z]
  · rw [if_neg (fun y => y.elim (fun a => hs a.1) (fun a => z a.2)), if_neg z]
theorem dgF_succ (t : Nat → Int) (q n : Nat) : dgF t q (n + 1) = dgF t q n + @ite _ (isD (t (q + n))) (Classical.propDecidable _) 1 0 := rfl
theorem dgF_d {t : Nat → Int} {q n : Nat} (h : isD (t (q + n))) : dgF t q (n + 1) = dgF t q n + 1 := by rw [dgF_succ, if_pos h]
theorem dgF_s {t : Nat → Int} {q n : Nat} (h : ¬ isD (t (q + n))) : dgF t q (n + 1) = dgF t q n := by rw [dgF_succ, if_neg h]; rfl
theorem alF_bit (x : Tx) (q n : Nat) : alF x q n = 0 ∨ alF x q n = 1 := by
  by_cases hs : isS (x.t q)
  · rw [alF_s hs]; split <;> omega
  · rw [alF_d hs]; split <;> omega
theorem alF_next {x : Tx} {q n : Nat} (hr : isR (x.t (q + n))) : (alF x q n = 0 → alF x q (n + 1) = 0) ∧ (alF x q n = 1 → smF x q = 1 → isS (x.t (q + n)) → alF x q (n + 1) = 1) ∧ (alF x q n = 1 → smF x q = 1 → ¬ isS (x.t (q + n)) → alF x q (n + 1) = 0) ∧ (alF x q n = 1 → smF x q = 0 → isS (x.t (q + n)) → alF x q (n + 1) = 0) ∧ (alF x q n = 1 → smF x q = 0 → ¬ isS (x.t (q + n)) → alF x q (n + 1) = 1) := by
  have le := dgF_le x.t q n
  have dd : isS (x.t (q + n)) → ¬ isD (x.t (q + n)) := fun a b => by unfold isS at a; unfold isD at b; omega
  have ds : ¬ isS (x.t (q + n)) → isD (x.t (q + n)) := fun a => hr.elim (fun z => absurd z a) (fun z => z)
  by_cases hs : isS (x.t q)
  · have sm : smF x q = 1 := by unfold smF; rw [if_pos hs]
    rw [alF_s hs, alF_s hs, sm]
    refine ⟨fun z => ?_, fun z _ a => ?_, fun z _ a => ?_, fun _ z => by omega, fun _ z => by omega⟩
    · by_cases y : dgF x.t q n = 0
      · rw [if_pos y] at z; omega
      · by_cases a : isD (x.t (q + n))
        · rw [dgF_d a, if_neg (by omega)]
        · rw [dgF_s a, if_neg y]
    · rw [dgF_s (dd a)]; exact z
    · rw [dgF_d (ds a), if_neg (by omega)]
  · have sm : smF x q = 0 := by unfold smF; rw [if_neg hs]
    rw [alF_d hs, alF_d hs, sm]
    refine ⟨fun z => ?_, fun _ z => by omega, fun _ z => by omega, fun z _ a => ?_, fun z _ a => ?_⟩
    · by_cases y : dgF x.t q n = n
      · rw [if_pos y] at z; omega
      · by_cases a : isD (x.t (q + n))
        · rw [dgF_d a, if_neg (by omega)]
        · rw [dgF_s a, if_neg (by omega)]
    · rw [dgF_s (dd a), if_neg (by omega)]
    · by_cases y : dgF x.t q n = n
      · rw [dgF_d (ds a), if_pos (by omega)]
      · rw [if_neg y] at z; omega
