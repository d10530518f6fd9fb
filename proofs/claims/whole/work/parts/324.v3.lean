theorem lor_byte {a c : Nat} (ha : a < 2 ^ 54) (hc : c < 256) : lor64 (lshl (a : Int) 8) (c : Int) = ((a * 256 + c : Nat) : Int) := by
  rw [show (8 : Int) = ((8 : Nat) : Int) from rfl, lshl_nat (by omega) (by omega)]
  unfold lor64
  show (Int64.ofInt ((a * 2 ^ 8 : Nat) : Int) ||| Int64.ofInt (c : Int)).toBitVec.toInt = _
  rw [Int64.toBitVec_or, i64bv, i64bv]
  have e : (BitVec.ofNat 64 (a * 2 ^ 8) ||| BitVec.ofNat 64 c).toNat = a * 256 + c := by
    rw [BitVec.toNat_or, BitVec.toNat_ofNat, BitVec.toNat_ofNat, Nat.mod_eq_of_lt (by omega), Nat.mod_eq_of_lt (by omega)]
    have := Nat.shiftLeft_add_eq_or_of_lt (b := c) (i := 8) (by omega) a
    rw [Nat.shiftLeft_eq] at this
    rw [← this]
  rw [bvInt (by rw [e]; omega), e]
theorem lor_byte_i {a c : Int} (ha : 0 ≤ a) (ha2 : a < 2 ^ 54) (hc : 0 ≤ c) (hc2 : c < 256) : lor64 (lshl a 8) c = a * 256 + c := by
  have := lor_byte (a := a.toNat) (c := c.toNat) (by omega) (by omega)
  rw [Int.toNat_of_nonneg ha, Int.toNat_of_nonneg hc] at this
  rw [this]; omega
theorem skF_two {t : Nat → Int} {R L : Nat} (h : R ≤ L) : ∀ m p, R - p = m → (skF t R (R - p) p < R → skF t L (L - p) p = skF t R (R - p) p) ∧ (R ≤ skF t R (R - p) p → R ≤ skF t L (L - p) p) := by
  intro m
  induction m with
  | zero =>
    intro p hm
    rw [hm]
    refine ⟨fun z => ?_, fun _ => ?_⟩
    · have z : p < R := z
      omega
    · have := skF_ge t L (L - p) p
      omega
  | succ m ih =>
    intro p hm
    by_cases z : isB (t p)
    · have := ih (p + 1) (by omega)
      rw [show R - p = (R - (p + 1)) + 1 by omega, show L - p = (L - (p + 1)) + 1 by omega, skF_go (by omega) z, skF_go (by omega) z]
      exact this
    · rw [skF_stop (fun y => z y.2), skF_stop (fun y => z y.2)]
      exact ⟨fun _ => rfl, fun _ => by omega⟩
theorem f256_bd {t : Nat → Int} {q : Nat} : ∀ n, (∀ j, j < n → isR (t (q + j))) → 0 ≤ f256 (sgF t q n) ∧ f256 (sgF t q n) < (256 : Int) ^ n
  | 0, _ => by
    show (0 : Int) ≤ 0 ∧ (0 : Int) < 256 ^ 0
    rw [Int.pow_zero]; omega
  | n + 1, h => by
    have h1 := f256_bd n (fun j hj => h j (by omega))
    have h2 := h n (by omega)
    unfold isR isS isD at h2
    show 0 ≤ f256 (sgF t q n ++ [t (q + n)]) ∧ f256 (sgF t q n ++ [t (q + n)]) < (256 : Int) ^ (n + 1)
    rw [f256_snoc, Int.pow_succ]
    omega
theorem f256_lt {t : Nat → Int} {q n : Nat} (hn : n ≤ 6) (h : ∀ j, j < n → isR (t (q + j))) : 0 ≤ f256 (sgF t q n) ∧ f256 (sgF t q n) < 281474976710656 := by
  have b := f256_bd (t := t) (q := q) n h
  have pn : 256 ^ n ≤ 281474976710656 := Nat.le_trans (Nat.pow_le_pow_right (by decide) hn) (by decide)
  have pe : (256 : Int) ^ n = ((256 ^ n : Nat) : Int) := by rw [Int.natCast_pow] <;> rfl
  rw [pe] at b
  generalize 256 ^ n = z at *
  omega
theorem nuF_lt {t : Nat → Int} {q n : Nat} (hn : n ≤ 3) (h : ∀ j, j < n → isR (t (q + j))) : 0 ≤ nuF t q n ∧ nuF t q n ≤ 9999 := by
  have h0 : 0 < n → isR (t q) := fun z => h 0 z
  have h1 : 1 < n → isR (t (q + 1)) := h 1
  have h2 : 2 < n → isR (t (q + 2)) := h 2
  unfold isR isS isD at h0 h1 h2
  rcases (show n = 0 ∨ n = 1 ∨ n = 2 ∨ n = 3 by omega) with e | e | e | e
  · subst e; show (0 : Int) ≤ 0 ∧ (0 : Int) ≤ 9999; omega
  · subst e; show 0 ≤ (0 : Int) * 10 + (t (q + 0) - 48) ∧ (0 : Int) * 10 + (t (q + 0) - 48) ≤ 9999
    have := h0 (by omega)
    rw [Nat.add_zero]
    omega
  · subst e; show 0 ≤ ((0 : Int) * 10 + (t (q + 0) - 48)) * 10 + (t (q + 1) - 48) ∧ ((0 : Int) * 10 + (t (q + 0) - 48)) * 10 + (t (q + 1) - 48) ≤ 9999
    have := h0 (by omega)
    have := h1 (by omega)
    rw [Nat.add_zero]
    omega
  · subst e; show 0 ≤ (((0 : Int) * 10 + (t (q + 0) - 48)) * 10 + (t (q + 1) - 48)) * 10 + (t (q + 2) - 48) ∧ (((0 : Int) * 10 + (t (q + 0) - 48)) * 10 + (t (q + 1) - 48)) * 10 + (t (q + 2) - 48) ≤ 9999
    have := h0 (by omega)
    have := h1 (by omega)
    have := h2 (by omega)
    rw [Nat.add_zero]
    omega
/-- the reference's token -/
def MdT (g : Nat → Int) (x : Tx) (p : Nat) : Prop := (g 12 = plF x p) ∧ (kdF x p = 0 → g 11 = 0) ∧ (kdF x p = 1 → g 11 = 4) ∧ (kdF x p = 2 → g 11 = 4) ∧ (kdF x p = 3 → g 11 = 3 ∧ g 14 = 59 ∧ g 4 = nxF x p) ∧ (kdF x p = 4 → g 11 = 2 ∧ g 14 = vnF x p ∧ g 4 = nxF x p) ∧ (kdF x p = 5 → g 11 = 1 ∧ g 17 = f256 (liF x p) ∧ g 4 = nxF x p)
theorem MdT.mk {g : Nat → Int} {x : Tx} {p : Nat} (pl_ : g 12 = plF x p) (k0_ : kdF x p = 0 → g 11 = 0) (k1_ : kdF x p = 1 → g 11 = 4) (k2_ : kdF x p = 2 → g 11 = 4) (k3_ : kdF x p = 3 → g 11 = 3 ∧ g 14 = 59 ∧ g 4 = nxF x p) (k4_ : kdF x p = 4 → g 11 = 2 ∧ g 14 = vnF x p ∧ g 4 = nxF x p) (k5_ : kdF x p = 5 → g 11 = 1 ∧ g 17 = f256 (liF x p) ∧ g 4 = nxF x p) : MdT g x p := And.intro pl_ (And.intro k0_ (And.intro k1_ (And.intro k2_ (And.intro k3_ (And.intro k4_ (k5_))))))
theorem MdT.pl {g : Nat → Int} {x : Tx} {p : Nat} (h_ : MdT g x p) : g 12 = plF x p := h_.1
theorem MdT.k0 {g : Nat → Int} {x : Tx} {p : Nat} (h_ : MdT g x p) : kdF x p = 0 → g 11 = 0 := h_.2.1
theorem MdT.k1 {g : Nat → Int} {x : Tx} {p : Nat} (h_ : MdT g x p) : kdF x p = 1 → g 11 = 4 := h_.2.2.1
theorem MdT.k2 {g : Nat → Int} {x : Tx} {p : Nat} (h_ : MdT g x p) : kdF x p = 2 → g 11 = 4 := h_.2.2.2.1
theorem MdT.k3 {g : Nat → Int} {x : Tx} {p : Nat} (h_ : MdT g x p) : kdF x p = 3 → g 11 = 3 ∧ g 14 = 59 ∧ g 4 = nxF x p := h_.2.2.2.2.1
theorem MdT.k4 {g : Nat → Int} {x : Tx} {p : Nat} (h_ : MdT g x p) : kdF x p = 4 → g 11 = 2 ∧ g 14 = vnF x p ∧ g 4 = nxF x p := h_.2.2.2.2.2.1
theorem MdT.k5 {g : Nat → Int} {x : Tx} {p : Nat} (h_ : MdT g x p) : kdF x p = 5 → g 11 = 1 ∧ g 17 = f256 (liF x p) ∧ g 4 = nxF x p := h_.2.2.2.2.2.2
/-- all bytes of a run are of the kind of its first -/
noncomputable def alF (x : Tx) (q n : Nat) : Int := @ite _ ((isS (x.t q) ∧ dgF x.t q n = 0) ∨ (¬ isS (x.t q) ∧ dgF x.t q n = n)) (Classical.propDecidable _) 1 0
noncomputable def smF (x : Tx) (q : Nat) : Int := @ite _ (isS (x.t q)) (Classical.propDecidable _) 1 0
theorem alF_s {x : Tx} {q n : Nat} (hs : isS (x.t q)) : alF x q n = if dgF x.t q n = 0 then 1 else 0 := by
  unfold alF
  by_cases z : dgF x.t q n = 0
  · rw [if_pos (Or.inl ⟨hs, z⟩), if_pos z]
  · rw [if_neg (fun y => y.elim (fun a => z a.2) (fun a => a.1 hs)), if_neg z]
theorem alF_d {x : Tx} {q n : Nat} (hs : ¬ isS (x.t q)) : alF x q n = if dgF x.t q n = n then 1 else 0 := by
  unfold alF
  by_cases z : dgF x.t q n = n
  · rw [if_pos (Or.inr ⟨hs, z⟩), if_pos z]
  · rw [if_neg (fun y => y.elim (fun a => hs a.1) (fun a => z a.2)), if_neg z]
theorem dgF_succ (t : Nat → Int) (q n : Nat) : dgF t q (n + 1) = dgF t q n + @ite _ (isD (t (q + n))) (Classical.propDecidable _) 1 0 := rfl
theorem dgF_d {t : Nat → Int} {q n : Nat} (h : isD (t (q + n))) : dgF t q (n + 1) = dgF t q n + 1 := by rw [dgF_succ, if_pos h]
theorem dgF_s {t : Nat → Int} {q n : Nat} (h : ¬ isD (t (q + n))) : dgF t q (n + 1) = dgF t q n := by rw [dgF_succ, if_neg h]; rfl
theorem alF_bit (x : Tx) (q n : Nat) : alF x q n = 0 ∨ alF x q n = 1 := by
  by_cases hs : isS (x.t q)
  · rw [alF_s hs]; split <;> omega
  · rw [alF_d hs]; split <;> omega
theorem alF_next {x : Tx} {q n : Nat} (hr : isR (x.t (q + n))) : (alF x q n = 0 → alF x q (n + 1) = 0) ∧ (alF x q n = 1 → smF x q = 1 → isS (x.t (q + n)) → alF x q (n + 1) = 1) ∧ (alF x q n = 1 → smF x q = 1 → ¬ isS (x.t (q + n)) → alF x q (n + 1) = 0) ∧ (alF x q n = 1 → smF x q = 0 → isS (x.t (q + n)) → alF x q (n + 1) = 0) ∧ (alF x q n = 1 → smF x q = 0 → ¬ isS (x.t (q + n)) → alF x q (n + 1) = 1) := by
  have le := dgF_le x.t q n
  have dd : isS (x.t (q + n)) → ¬ isD (x.t (q + n)) := fun a b => by unfold isS at a; unfold isD at b; omega
  have ds : ¬ isS (x.t (q + n)) → isD (x.t (q + n)) := fun a => hr.elim (fun z => absurd z a) (fun z => z)
  by_cases hs : isS (x.t q)
  · have sm : smF x q = 1 := by unfold smF; rw [if_pos hs]
    rw [alF_s hs, alF_s hs, sm]
    refine ⟨fun z => ?_, fun z _ a => ?_, fun z _ a => ?_, fun _ z => by omega, fun _ z => by omega⟩
    · by_cases y : dgF x.t q n = 0
      · rw [if_pos y] at z; omega
      · by_cases a : isD (x.t (q + n))
        · rw [dgF_d a, if_neg (by omega)]
        · rw [dgF_s a, if_neg y]
    · rw [dgF_s (dd a)]; exact z
    · rw [dgF_d (ds a), if_neg (by omega)]
  · have sm : smF x q = 0 := by unfold smF; rw [if_neg hs]
    rw [alF_d hs, alF_d hs, sm]
    refine ⟨fun z => ?_, fun _ z => by omega, fun _ z => by omega, fun z _ a => ?_, fun z _ a => ?_⟩
    · by_cases y : dgF x.t q n = n
      · rw [if_pos y] at z; omega
      · by_cases a : isD (x.t (q + n))
        · rw [dgF_d a, if_neg (by omega)]
        · rw [dgF_s a, if_neg (by omega)]
    · rw [dgF_s (dd a), if_neg (by omega)]
    · by_cases y : dgF x.t q n = n
      · rw [dgF_d (ds a), if_pos (by omega)]
      · rw [if_neg y] at z; omega
theorem ruF_zero (t : Nat → Int) (L m p : Nat) (h : ¬ (p < L ∧ isR (t p))) : ruF t L m p = p := ruF_stop h m
/-- what the end of a run says -/
theorem kdF_run {x : Tx} {p n : Nat} (hq : qF x p < rdb x) (hn : eF x p = qF x p + n) (h0 : 0 < n) (h1 : isR (x.t (qF x p))) :
    (alF x (qF x p) n = 0 → kdF x p = 2) ∧ (alF x (qF x p) n = 1 → smF x (qF x p) = 1 → (n ≤ 6 → kdF x p = 5) ∧ (¬ n ≤ 6 → kdF x p = 2)) ∧ (alF x (qF x p) n = 1 → smF x (qF x p) = 0 → (n ≤ 3 → kdF x p = 4) ∧ (¬ n ≤ 3 → kdF x p = 2)) := by
  have ne : ¬ eF x p = qF x p := by omega
  have en : eF x p - qF x p = n := by omega
  have kd : kdF x p = if dgF x.t (qF x p) n = n ∧ n ≤ 3 then 4 else if dgF x.t (qF x p) n = 0 ∧ n ≤ 6 then 5 else 2 := by
    unfold kdF
    rw [if_neg (by omega), if_neg ne, en]
  have first : dgF x.t (qF x p) n = n → ¬ isS (x.t (qF x p)) := fun z => by
    have := dgF_all n z 0 h0
    rw [Nat.add_zero] at this
    unfold isD at this
    unfold isS
    omega
  have firstS : dgF x.t (qF x p) n = 0 → isS (x.t (qF x p)) := fun z => by
    have := dgF_none n z 0 h0
    rw [Nat.add_zero] at this
    exact h1.elim (fun y => y) (fun y => absurd y this)
  have sm1 : smF x (qF x p) = 1 → isS (x.t (qF x p)) := fun z => by
    unfold smF at z
    by_cases y : isS (x.t (qF x p))
    · exact y
    · rw [if_neg y] at z; omega
  have sm0 : smF x (qF x p) = 0 → ¬ isS (x.t (qF x p)) := fun z y => by
    unfold smF at z
    rw [if_pos y] at z; omega
  refine ⟨fun z => ?_, fun z z2 => ?_, fun z z2 => ?_⟩
  · rw [kd]
    by_cases y : dgF x.t (qF x p) n = n
    · rw [alF_d (first y), if_pos y] at z; omega
    · rw [if_neg (fun a => y a.1)]
      by_cases y2 : dgF x.t (qF x p) n = 0
      · rw [alF_s (firstS y2), if_pos y2] at z; omega
      · rw [if_neg (fun a => y2 a.1)]
  · rw [alF_s (sm1 z2)] at z
    have y2 : dgF x.t (qF x p) n = 0 := by
      by_cases y2 : dgF x.t (qF x p) n = 0
      · exact y2
      · rw [if_neg y2] at z; omega
    rw [kd, if_neg (by omega)]
    exact ⟨fun a => by rw [if_pos ⟨y2, a⟩], fun a => by rw [if_neg (fun b => a b.2)]⟩
  · rw [alF_d (sm0 z2)] at z
    have y2 : dgF x.t (qF x p) n = n := by
      by_cases y2 : dgF x.t (qF x p) n = n
      · exact y2
      · rw [if_neg y2] at z; omega
    rw [kd]
    exact ⟨fun a => by rw [if_pos ⟨y2, a⟩], fun a => by rw [if_neg (fun b => a b.2), if_neg (by omega)]⟩
theorem qF_le {x : Tx} {p : Nat} (hp : p ≤ x.L) : skF x.t x.L (x.L - p) p ≤ x.L := by
  have : ∀ m p, x.L - p = m → p ≤ x.L → skF x.t x.L m p ≤ x.L := by
    intro m
    induction m with
    | zero => intro p _ h; exact h
    | succ m ih =>
      intro p hm h
      by_cases z : isB (x.t p)
      · rw [skF_go (by omega) z]; exact ih (p + 1) (by omega) (by omega)
      · rw [skF_stop (fun y => z y.2)]; exact h
  exact this _ p rfl hp
theorem nx92 {C0 C1 : Prop} {s c : Int} (h0 : isS c → s = 1 → C1) (h1 : isS c → ¬ s = 1 → C0) (h2 : ¬ isS c → s = 0 → C1) (h3 : ¬ isS c → ¬ s = 0 → C0) : (c < 97 → ((¬ (0 : Int) = s → C0) ∧ (¬ (¬ (0 : Int) = s) → C1))) ∧ (¬ (c < 97) → ((122 < c → ((¬ (0 : Int) = s → C0) ∧ (¬ (¬ (0 : Int) = s) → C1))) ∧ (¬ (122 < c) → ((¬ (1 : Int) = s → C0) ∧ (¬ (¬ (1 : Int) = s) → C1))))) := by
  unfold isS at h0 h1 h2 h3
  refine ⟨fun a => ⟨fun b => h3 (by omega) (by omega), fun b => h2 (by omega) (by omega)⟩, fun a => ⟨fun b => ⟨fun b2 => h3 (by omega) (by omega), fun b2 => h2 (by omega) (by omega)⟩, fun b => ⟨fun b2 => h1 (by omega) (by omega), fun b2 => h0 (by omega) (by omega)⟩⟩⟩
theorem tr84 {E G : Prop} {L J c : Int} (hb : L ≤ J ∨ (0 ≤ J ∧ J < 1040)) (he : L ≤ J ∨ ¬ isR c → E) (hg : ¬ L ≤ J → isR c → G) : (L ≤ J → ((L ≤ J → E) ∧ (¬ (L ≤ J) → ((0 ≤ J ∧ J < 1040) ∧ ((c < 48 → E) ∧ (¬ (c < 48) → ((57 < c → E) ∧ (¬ (57 < c) → G)))))))) ∧ (¬ (L ≤ J) → ((0 ≤ J ∧ J < 1040) ∧ ((c < 97 → ((L ≤ J → E) ∧ (¬ (L ≤ J) → ((0 ≤ J ∧ J < 1040) ∧ ((c < 48 → E) ∧ (¬ (c < 48) → ((57 < c → E) ∧ (¬ (57 < c) → G)))))))) ∧ (¬ (c < 97) → ((122 < c → ((L ≤ J → E) ∧ (¬ (L ≤ J) → ((0 ≤ J ∧ J < 1040) ∧ ((c < 48 → E) ∧ (¬ (c < 48) → ((57 < c → E) ∧ (¬ (57 < c) → G)))))))) ∧ (¬ (122 < c) → G)))))) := by
  unfold isR isS isD at he hg
  refine ⟨fun y => ⟨fun _ => he (Or.inl y), fun y2 => absurd y y2⟩, fun y => ⟨by omega, fun y2 => ⟨fun y3 => absurd y3 y, fun _ => ⟨by omega, fun y3 => he (by omega), fun y3 => ⟨fun y4 => he (by omega), fun y4 => hg y (by omega)⟩⟩⟩, fun y2 => ⟨fun y3 => ⟨fun y4 => absurd y4 y, fun _ => ⟨by omega, fun y4 => he (by omega), fun y4 => ⟨fun y5 => he (by omega), fun y5 => hg y (by omega)⟩⟩⟩, fun y3 => hg y (by omega)⟩⟩⟩
theorem tr40 {S R Q0 : Prop} {J c : Int} (hb : 0 ≤ J ∧ J < 1040) (hc : 0 ≤ c) (hs : ¬ isR c → S) (hr : isR c → R) : (0 ≤ J ∧ J < 1040) ∧ ((0 ≤ c → ((c < 97 → ((c < 48 → S) ∧ (¬ (c < 48) → ((57 < c → S) ∧ (¬ (57 < c) → R))))) ∧ (¬ (c < 97) → ((122 < c → ((c < 48 → S) ∧ (¬ (c < 48) → ((57 < c → S) ∧ (¬ (57 < c) → R))))) ∧ (¬ (122 < c) → R))))) ∧ (¬ (0 ≤ c) → Q0)) := by
  unfold isR isS isD at hs hr
  refine ⟨hb, fun _ => ⟨fun y => ⟨fun y2 => hs (by omega), fun y2 => ⟨fun y3 => hs (by omega), fun y3 => hr (by omega)⟩⟩, fun y => ⟨fun y2 => ⟨fun y3 => hs (by omega), fun y3 => ⟨fun y4 => hs (by omega), fun y4 => hr (by omega)⟩⟩, fun y2 => hr (by omega)⟩⟩, fun y => absurd hc y⟩
theorem tr0 {A W : Prop} {L J c : Int} (hb : L ≤ J ∨ (0 ≤ J ∧ J < 1040)) (ha : L ≤ J ∨ ¬ isB c → A) (hw : ¬ L ≤ J → isB c → W) : (L ≤ J → ((L ≤ J → A) ∧ (¬ (L ≤ J) → ((0 ≤ J ∧ J < 1040) ∧ ((¬ c = 10 → A) ∧ (¬ (¬ c = 10) → W)))))) ∧ (¬ (L ≤ J) → ((0 ≤ J ∧ J < 1040) ∧ ((c = 32 → W) ∧ (¬ (c = 32) → ((L ≤ J → A) ∧ (¬ (L ≤ J) → ((0 ≤ J ∧ J < 1040) ∧ ((¬ c = 10 → A) ∧ (¬ (¬ c = 10) → W))))))))) := by
  unfold isB at ha hw
  refine ⟨fun y => ⟨fun _ => ha (Or.inl y), fun y2 => absurd y y2⟩, fun y => ⟨by omega, fun y2 => hw y (by omega), fun y2 => ⟨fun y3 => absurd y3 y, fun _ => ⟨by omega, fun y3 => ha (by omega), fun y3 => hw y (by omega)⟩⟩⟩⟩
set_option maxHeartbeats 8000000 in
/-- the reference reads its next token -/
theorem S_next {d : Nat} {Q : MV → Wd → Prop} {w : Wd} {x : Tx} (hx : TxO x) (ht : ∀ i, i < 1040 → iand (w 145 i) 255 = x.t i) {p : Nat} (hp : p ≤ x.L) (h3 : w 144 3 = x.L) (h5 : w 144 5 = x.M) (h4 : w 144 4 = p)
    (k : ∀ g : Nat → Int, MdT g x p → (∀ i, i ≠ 4 → i ≠ 11 → i ≠ 12 → i ≠ 13 → i ≠ 14 → i ≠ 17 → g i = w 144 i) → Q none (ubf w 144 g)) : Cw (d + 2) 175 [mR 144] w Q := by
  have hL := hx.L
  have hM := hx.M
  have two := skF_two (t := x.t) (R := rdb x) (L := x.L) (Nat.min_le_left _ _) _ p rfl
  have hqL := qF_le hp
  have hrd : rdb x = min x.L x.M := rfl
  have qe : qF x p = skF x.t (rdb x) (rdb x - p) p := rfl
  rw [← qe] at two
  apply M_next_144_en
  intro n1
  have fin : ∀ (n : Nat) (g : Nat → Int), qF x p < rdb x → isR (x.t (qF x p)) → eF x p = qF x p + n → (∀ i, i ≠ 4 → i ≠ 11 → i ≠ 12 → i ≠ 13 → i ≠ 14 → i ≠ 17 → g i = w 144 i) → g 12 = qF x p → g 13 = n → g 4 = (qF x p + n : Nat) → g 17 = f256 (sgF x.t (qF x p) (min n 6)) → g 14 = nuF x.t (qF x p) (min n 3) → (alF x (qF x p) n = 0 → Wp (Cw (d + 1)) cd_M_next (0, 0, n1) Q 156 [none, none, none, none] [mR 144] (ubf w 144 g)) ∧ (¬ (alF x (qF x p) n = 0) → ((smF x (qF x p) = 0 → Wp (Cw (d + 1)) cd_M_next (0, 0, n1) Q 155 [none, none, mI (smF x (qF x p)), none] [mI 3, mI ((ubf w 144 g) 144 13), mR 144] (ubf w 144 g)) ∧ (¬ (smF x (qF x p) = 0) → Wp (Cw (d + 1)) cd_M_next (0, 0, n1) Q 155 [none, none, mI (smF x (qF x p)), none] [mI 6, mI ((ubf w 144 g) 144 13), mR 144] (ubf w 144 g)))) := by
    intro n g hq h1 he fr g12 g13 g4 g17 g14
    have n0 : 0 < n := by
      have : ¬ eF x p = qF x p := fun y => by
        have e : eF x p = ruF x.t x.L (x.L - qF x p) (qF x p) := rfl
        have gl : rdb x ≤ x.L := Nat.min_le_left _ _
        rw [show x.L - qF x p = (x.L - (qF x p + 1)) + 1 by omega, ruF_go (by omega) h1] at e
        have := ruF_ge x.t x.L (x.L - (qF x p + 1)) (qF x p + 1)
        omega
      omega
    have kr := kdF_run hq he n0 h1
    have pl : plF x p = qF x p := by unfold plF; rw [if_neg (by omega)]
    have nx : nxF x p = qF x p + n := by unfold nxF; rw [if_neg (by omega), he]
    have en : eF x p - qF x p = n := by omega
    have bit := alF_bit x (qF x p) n
    have sm : smF x (qF x p) = 0 ∨ smF x (qF x p) = 1 := by
      unfold smF
      by_cases y : isS (x.t (qF x p))
      · rw [if_pos y]; omega
      · rw [if_neg y]; omega
    have fr' : ∀ v : Int, ∀ i, i ≠ 4 → i ≠ 11 → i ≠ 12 → i ≠ 13 → i ≠ 14 → i ≠ 17 → (up1 g 11 v) i = w 144 i := fun v i a b c d' e f => by rw [up1_ap, if_neg b]; exact fr i a b c d' e f
    have t4 : kdF x p = 2 → Wp (Cw (d + 1)) cd_M_next (0, 0, n1) Q 156 [none, none, none, none] [mR 144] (ubf w 144 g) := fun kd => by
      apply M_next_144_c156
      apply M_next_144_c163
      rw [ub_on]
      exact k _ (MdT.mk (by rw [up1_ap, if_neg (by decide), g12, pl]) (fun z => by omega) (fun z => by omega) (fun _ => by rw [up1_ap, if_pos rfl]) (fun z => by omega) (fun z => by omega) (fun z => by omega)) (fr' 4)
    rw [show (ubf w 144 g) 144 13 = n by rw [ubf_self, g13]]
    refine ⟨fun y => t4 (kr.1 y), fun y => ⟨fun y2 => ?_, fun y2 => ?_⟩⟩
    · apply M_next_144_c155
      refine ⟨fun y3 => ⟨fun _ => ?_, fun y4 => absurd y2 y4⟩, fun y3 => t4 ((kr.2.2 (by omega) (by omega)).2 (by omega))⟩
      have kd := (kr.2.2 (by omega) (by omega)).1 (by omega)
      apply M_next_144_c163
      rw [ub_on]
      refine k _ (MdT.mk (by rw [up1_ap, if_neg (by decide), g12, pl]) (fun z => by omega) (fun z => by omega) (fun z => by omega) (fun z => by omega) (fun _ => ⟨by rw [up1_ap, if_pos rfl], ?_, ?_⟩) (fun z => by omega)) (fr' 2)
      · rw [up1_ap, if_neg (by decide), g14, show min n 3 = n by omega]
        unfold vnF; rw [en]
      · rw [up1_ap, if_neg (by decide), g4, nx]
    · apply M_next_144_c155
      refine ⟨fun y3 => ⟨fun y4 => absurd y4 y2, fun _ => ?_⟩, fun y3 => t4 ((kr.2.1 (by omega) (by omega)).2 (by omega))⟩
      have kd := (kr.2.1 (by omega) (by omega)).1 (by omega)
      apply M_next_144_c163
      rw [ub_on]
      refine k _ (MdT.mk (by rw [up1_ap, if_neg (by decide), g12, pl]) (fun z => by omega) (fun z => by omega) (fun z => by omega) (fun z => by omega) (fun z => by omega) (fun _ => ⟨by rw [up1_ap, if_pos rfl], ?_, ?_⟩)) (fr' 1)
      · rw [up1_ap, if_neg (by decide), g17, show min n 6 = n by omega]
        unfold liF; rw [en]
      · rw [up1_ap, if_neg (by decide), g4, nx]
  have lp : ∀ (m n : Nat) (g : Nat → Int), qF x p < rdb x → isR (x.t (qF x p)) → qF x p + n + m = x.L → eF x p = ruF x.t x.L m (qF x p + n) → (∀ i, i ≠ 4 → i ≠ 11 → i ≠ 12 → i ≠ 13 → i ≠ 14 → i ≠ 17 → g i = w 144 i) → g 12 = qF x p → g 13 = n → g 4 = (qF x p + n : Nat) → g 17 = f256 (sgF x.t (qF x p) (min n 6)) → g 14 = nuF x.t (qF x p) (min n 3) → Wp (Cw (d + 1)) cd_M_next (0, 0, n1) Q 84 [mR 144, none, mI (smF x (qF x p)), mI (alF x (qF x p) n)] [] (ubf w 144 g) := by
    intro m
    induction m with
    | zero =>
      intro n g hq h1 hm he fr g12 g13 g4 g17 g14
      have F := fin n g hq h1 (by rw [he]; rfl) fr g12 g13 g4 g17 g14
      have e3 : (ubf w 144 g) 144 3 = x.L := by rw [ubf_self, fr 3 (by decide) (by decide) (by decide) (by decide) (by decide) (by decide), h3]
      have e4 : (ubf w 144 g) 144 4 = (qF x p + n : Nat) := by rw [ubf_self, g4]
      apply M_next_144_c84
      rw [e3, e4]
      exact tr84 (by left; omega) (fun _ => F) (fun y => absurd (by omega) y)
    | succ m ih =>
      intro n g hq h1 hm he fr g12 g13 g4 g17 g14
      have e3 : (ubf w 144 g) 144 3 = x.L := by rw [ubf_self, fr 3 (by decide) (by decide) (by decide) (by decide) (by decide) (by decide), h3]
      have e4 : (ubf w 144 g) 144 4 = (qF x p + n : Nat) := by rw [ubf_self, g4]
      have e13 : (ubf w 144 g) 144 13 = n := by rw [ubf_self, g13]
      have et : iand ((ubf w 144 g) 145 (qF x p + n)) 255 = x.t (qF x p + n) := ht _ (by omega)
      have xb := hx.t (qF x p + n) (by omega)
      by_cases z : isR (x.t (qF x p + n))
      · have rg := ruF_ge x.t x.L m (qF x p + n + 1)
        rw [ruF_go (by omega) z] at he
        have rr : ∀ j, j < n + 1 → isR (x.t (qF x p + j)) := fun j hj => ruF_run x.t x.L (x.L - qF x p) (qF x p) _ (by omega) (by
          have : eF x p = ruF x.t x.L (x.L - qF x p) (qF x p) := rfl
          omega)
        have al := alF_next (x := x) (q := qF x p) (n := n) z
        have bit := alF_bit x (qF x p) n
        have G132 : ∀ g1 : Nat → Int, (∀ i, i ≠ 4 → i ≠ 11 → i ≠ 12 → i ≠ 13 → i ≠ 14 → i ≠ 17 → g1 i = w 144 i) → g1 12 = qF x p → g1 13 = n → g1 4 = (qF x p + n : Nat) → g1 17 = f256 (sgF x.t (qF x p) (min (n + 1) 6)) → g1 14 = nuF x.t (qF x p) (min (n + 1) 3) → Wp (Cw (d + 1)) cd_M_next (0, 0, n1) Q 132 [mR 144, none, mI (smF x (qF x p)), mI (alF x (qF x p) (n + 1))] [] (ubf w 144 g1) := by
          intro g1 fr1 a12 a13 a4 a17 a14
          apply M_next_144_c132
          rw [show (ubf w 144 g1) 144 13 = n by rw [ubf_self, a13], show (ubf w 144 g1) 144 4 = (qF x p + n : Nat) by rw [ubf_self, a4], ixs (k := n) (by omega), ixs (k := qF x p + n) (by omega), ub_on, ub_on]
          refine ih (n + 1) _ hq h1 (by omega) he (fun i a b c d' e f => by rw [up1_ap, if_neg a, up1_ap, if_neg d']; exact fr1 i a b c d' e f) ?_ ?_ ?_ ?_ ?_
          · rw [up1_ap, if_neg (by decide), up1_ap, if_neg (by decide)]; exact a12
          · rw [up1_ap, if_neg (by decide), up1_ap, if_pos rfl]
          · rw [up1_ap, if_pos rfl]; rfl
          · rw [up1_ap, if_neg (by decide), up1_ap, if_neg (by decide)]; exact a17
          · rw [up1_ap, if_neg (by decide), up1_ap, if_neg (by decide)]; exact a14
        have G117 : ∀ g1 : Nat → Int, (∀ i, i ≠ 4 → i ≠ 11 → i ≠ 12 → i ≠ 13 → i ≠ 14 → i ≠ 17 → g1 i = w 144 i) → g1 12 = qF x p → g1 13 = n → g1 4 = (qF x p + n : Nat) → g1 17 = f256 (sgF x.t (qF x p) (min (n + 1) 6)) → g1 14 = nuF x.t (qF x p) (min n 3) → Wp (Cw (d + 1)) cd_M_next (0, 0, n1) Q 117 [mR 144, none, mI (smF x (qF x p)), mI (alF x (qF x p) (n + 1))] [] (ubf w 144 g1) := by
          intro g1 fr1 a12 a13 a4 a17 a14
          apply M_next_144_c117
          rw [show (ubf w 144 g1) 144 13 = n by rw [ubf_self, a13], show (ubf w 144 g1) 144 3 = x.L by rw [ubf_self, fr1 3 (by decide) (by decide) (by decide) (by decide) (by decide) (by decide), h3], show (ubf w 144 g1) 144 4 = (qF x p + n : Nat) by rw [ubf_self, a4], show (ubf w 144 g1) 144 14 = nuF x.t (qF x p) (min n 3) by rw [ubf_self, a14], Int.toNat_natCast, show iand ((ubf w 144 g1) 145 (qF x p + n)) 255 = x.t (qF x p + n) from et]
          refine ⟨fun y => ?_, fun y => ⟨fun y2 => by exfalso; omega, fun _ => ⟨by omega, ?_⟩⟩⟩
          · refine G132 g1 fr1 a12 a13 a4 a17 ?_
            rw [a14, show min n 3 = 3 by omega, show min (n + 1) 3 = 3 by omega]
          · rw [show min n 3 = n by omega]
            have nb := nuF_lt (t := x.t) (q := qF x p) (n := n) (by omega) (fun j hj => rr j (by omega))
            rw [w32_id (x := 10 * nuF x.t (qF x p) n) (by unfold in32; omega), w32_id (x := 10 * nuF x.t (qF x p) n + x.t (qF x p + n)) (by unfold in32; omega), w32_id (by unfold in32; omega), ub_on]
            refine G132 _ (fun i a b c d' e f => by rw [up1_ap, if_neg e]; exact fr1 i a b c d' e f) (by rw [up1_ap, if_neg (by decide)]; exact a12) (by rw [up1_ap, if_neg (by decide)]; exact a13) (by rw [up1_ap, if_neg (by decide)]; exact a4) (by rw [up1_ap, if_neg (by decide)]; exact a17) ?_
            rw [up1_ap, if_pos rfl, show min (n + 1) 3 = n + 1 by omega]
            show _ = nuF x.t (qF x p) n * 10 + (x.t (qF x p + n) - 48)
            omega
        have G102 : Wp (Cw (d + 1)) cd_M_next (0, 0, n1) Q 102 [mR 144, none, mI (smF x (qF x p)), none] [mI (alF x (qF x p) (n + 1))] (ubf w 144 g) := by
          apply M_next_144_c102
          rw [e13, e3, e4, show (ubf w 144 g) 144 17 = f256 (sgF x.t (qF x p) (min n 6)) by rw [ubf_self, g17], Int.toNat_natCast, et]
          refine ⟨fun y => ?_, fun y => ⟨fun y2 => by exfalso; omega, fun _ => ⟨by omega, ?_⟩⟩⟩
          · refine G117 g fr g12 g13 g4 ?_ g14
            rw [g17, show min n 6 = 6 by omega, show min (n + 1) 6 = 6 by omega]
          · rw [show min n 6 = n by omega]
            have fb := f256_lt (t := x.t) (q := qF x p) (n := n) (by omega) (fun j hj => rr j (by omega))
            rw [lor_byte_i fb.1 (by omega) xb.1 (by omega), ub_on]
            refine G117 _ (fun i a b c d' e f => by rw [up1_ap, if_neg f]; exact fr i a b c d' e f) (by rw [up1_ap, if_neg (by decide)]; exact g12) (by rw [up1_ap, if_neg (by decide)]; exact g13) (by rw [up1_ap, if_neg (by decide)]; exact g4) ?_ (by rw [up1_ap, if_neg (by decide)]; exact g14)
            rw [up1_ap, if_pos rfl, show min (n + 1) 6 = n + 1 by omega]
            exact (f256_snoc _ _).symm
        have G92 : Wp (Cw (d + 1)) cd_M_next (0, 0, n1) Q 92 [mR 144, none, mI (smF x (qF x p)), mI (alF x (qF x p) n)] [] (ubf w 144 g) := by
          have sm : smF x (qF x p) = 0 ∨ smF x (qF x p) = 1 := by
            unfold smF
            by_cases y : isS (x.t (qF x p))
            · rw [if_pos y]; omega
            · rw [if_neg y]; omega
          have c0 : alF x (qF x p) (n + 1) = 0 → Wp (Cw (d + 1)) cd_M_next (0, 0, n1) Q 101 [mR 144, none, mI (smF x (qF x p)), none] [] (ubf w 144 g) := fun y => by
            apply M_next_144_c101
            rw [y] at G102
            exact G102
          have c1 : alF x (qF x p) (n + 1) = 1 → Wp (Cw (d + 1)) cd_M_next (0, 0, n1) Q 102 [mR 144, none, mI (smF x (qF x p)), none] [mI 1] (ubf w 144 g) := fun y => by
            rw [y] at G102
            exact G102
          clear G102 G117 G132 ih
          apply M_next_144_c92
          rw [e3, e4, Int.toNat_natCast, et]
          refine ⟨fun y => c0 (al.1 y), fun y => ?_⟩
          have b1 : alF x (qF x p) n = 1 := bit.resolve_left y
          refine ⟨fun y2 => absurd y2 (by clear al two c0 c1 et; omega), fun _ => ⟨by clear al two c0 c1 et; omega, ?_⟩⟩
          refine nx92 (fun a b => c1 (al.2.1 b1 b a)) (fun a b => c0 (al.2.2.2.1 b1 (sm.resolve_right b) a)) (fun a b => c1 (al.2.2.2.2 b1 b a)) (fun a b => c0 (al.2.2.1 b1 (sm.resolve_left b) a))
        clear G102 G117 G132 ih al
        apply M_next_144_c84
        rw [e3, e4, e13, Int.toNat_natCast, et]
        refine tr84 (by right; omega) (fun y => ?_) (fun _ _ => G92)
        exfalso
        rcases y with y | y
        · clear two; omega
        · exact y z
      · have F := fin n g hq h1 (by rw [he, ruF_stop (fun y => z y.2)]) fr g12 g13 g4 g17 g14
        apply M_next_144_c84
        rw [e3, e4, Int.toNat_natCast, et]
        exact tr84 (by right; omega) (fun _ => F) (fun _ y => absurd y z)
  have c40 : ∀ g : Nat → Int, (∀ i, i ≠ 4 → i ≠ 11 → i ≠ 12 → i ≠ 13 → i ≠ 14 → i ≠ 17 → g i = w 144 i) → g 12 = skF x.t x.L (x.L - p) p → g 13 = 0 → g 4 = skF x.t x.L (x.L - p) p → ¬ (x.M < x.L ∧ x.M ≤ skF x.t x.L (x.L - p) p) → (skF x.t x.L (x.L - p) p < x.L → ¬ isB (x.t (skF x.t x.L (x.L - p) p))) → Wp (Cw (d + 1)) cd_M_next (0, 0, n1) Q 40 [mR 144, none, none, none] [] (ubf w 144 g) := by
    intro g fr g12 g13 g4 hcut hb
    generalize skF x.t x.L (x.L - p) p = j at *
    have e3 : (ubf w 144 g) 144 3 = x.L := by rw [ubf_self, fr 3 (by decide) (by decide) (by decide) (by decide) (by decide) (by decide), h3]
    have e4 : (ubf w 144 g) 144 4 = j := by rw [ubf_self, g4]
    apply M_next_144_c40
    rw [e3, e4, Int.toNat_natCast]
    by_cases z : x.L ≤ j
    · have kd : kdF x p = 0 := by unfold kdF; rw [if_pos (by omega), if_neg (by omega)]
      have pl : plF x p = j := by unfold plF; rw [if_pos (by omega)]; omega
      refine ⟨fun _ => ?_, fun y => by exfalso; omega⟩
      rw [ub_on]
      exact k _ (MdT.mk (by rw [up1_ap, if_neg (by decide), g12, pl]) (fun _ => by rw [up1_ap, if_pos rfl]) (fun z => by omega) (fun z => by omega) (fun z => by omega) (fun z => by omega) (fun z => by omega)) (fun i a b c d' e f => by rw [up1_ap, if_neg b]; exact fr i a b c d' e f)
    · have hq : qF x p < rdb x := by omega
      have qj : j = qF x p := two.1 hq
      have pl : plF x p = j := by unfold plF; rw [if_neg (by omega), qj]
      have et : iand ((ubf w 144 g) 145 j) 255 = x.t j := ht _ (by omega)
      have xb := hx.t j (by omega)
      rw [et]
      -- no letter and no digit
      have NR : ¬ isR (x.t j) → ∀ s0 : Int, (x.t j = 59 → s0 = 3) → (¬ x.t j = 59 → s0 = 4) → Wp (Cw (d + 1)) cd_M_next (0, 0, n1) Q 62 [mR 144, mI (x.t j), none, none] [mI s0, mR 144] (ubf w 144 g) := fun y s0 s3 s4 => by
        have ee : eF x p = qF x p := by
          show ruF x.t x.L (x.L - qF x p) (qF x p) = qF x p
          rw [ruF_stop (fun a => y (by rw [qj]; exact a.2))]
        have nx : nxF x p = j + 1 := by unfold nxF; rw [if_pos ee, qj]
        have kd : kdF x p = if x.t j = 59 then 3 else 2 := by unfold kdF; rw [if_neg (by omega), if_pos ee, qj]
        apply M_next_144_c62
        rw [e4, ixs (k := j) (by omega), ub_on, ub_on, ub_on]
        refine k _ (MdT.mk (by rw [up1_ap, if_neg (by decide), up1_ap, if_neg (by decide), up1_ap, if_neg (by decide), g12, pl]) ?_ ?_ ?_ ?_ ?_ ?_) (fun i a b c d' e f => by rw [up1_ap, if_neg a, up1_ap, if_neg e, up1_ap, if_neg b]; exact fr i a b c d' e f)
        · intro a; rw [kd] at a; split at a <;> omega
        · intro a; rw [kd] at a; split at a <;> omega
        · intro a
          rw [kd] at a
          by_cases b : x.t j = 59
          · rw [if_pos b] at a; omega
          · rw [up1_ap, if_neg (by decide), up1_ap, if_neg (by decide), up1_ap, if_pos rfl]; exact s4 b
        · intro a
          rw [kd] at a
          by_cases b : x.t j = 59
          · refine ⟨by rw [up1_ap, if_neg (by decide), up1_ap, if_neg (by decide), up1_ap, if_pos rfl]; exact s3 b, by rw [up1_ap, if_neg (by decide), up1_ap, if_pos rfl]; exact b, by rw [up1_ap, if_pos rfl, nx]⟩
          · rw [if_neg b] at a; omega
        · intro a; rw [kd] at a; split at a <;> omega
        · intro a; rw [kd] at a; split at a <;> omega
      have YR : isR (x.t j) → Wp (Cw (d + 1)) cd_M_next (0, 0, n1) Q 73 [mR 144, mI (x.t j), none, none] [] (ubf w 144 g) := fun y => by
        have a0 : alF x (qF x p) 0 = 1 := by
          unfold alF
          by_cases b : isS (x.t (qF x p))
          · rw [if_pos (Or.inl ⟨b, rfl⟩)]
          · rw [if_pos (Or.inr ⟨b, rfl⟩)]
        have L := lp (x.L - qF x p) 0 (up1 (up1 g 17 0) 14 0) hq (by rw [← qj]; exact y) (by omega) rfl (fun i a b c d' e f => by rw [up1_ap, if_neg e, up1_ap, if_neg f]; exact fr i a b c d' e f) (by rw [up1_ap, if_neg (by decide), up1_ap, if_neg (by decide), g12, qj]) (by rw [up1_ap, if_neg (by decide), up1_ap, if_neg (by decide), g13]; rfl) (by rw [up1_ap, if_neg (by decide), up1_ap, if_neg (by decide), g4, qj]; rfl) (by rw [up1_ap, if_neg (by decide), up1_ap, if_pos rfl]; rfl) (by rw [up1_ap, if_pos rfl]; rfl)
        rw [a0] at L
        apply M_next_144_c73
        rw [ub_on, ub_on]
        unfold isR isS isD at y
        have s0 : ¬ isS (x.t j) → smF x (qF x p) = 0 := fun a => by unfold smF; rw [← qj, if_neg a]
        have s1 : isS (x.t j) → smF x (qF x p) = 1 := fun a => by unfold smF; rw [← qj, if_pos a]
        unfold isS at s0 s1
        refine ⟨fun b => ?_, fun b => ⟨fun c => ?_, fun c => ?_⟩⟩
        · rw [s0 (by omega)] at L; exact L
        · rw [s0 (by omega)] at L; exact L
        · rw [s1 (by omega)] at L; exact L
      clear lp fin two
      refine ⟨fun y => absurd y (by omega), fun _ => tr40 (by omega) xb.1 (fun y => ?_) YR⟩
      exact ⟨fun y2 => NR y 4 (fun y3 => absurd y3 y2) (fun _ => rfl), fun y2 => NR y 3 (fun _ => rfl) (fun y3 => absurd y3 y2)⟩
  have top : ∀ (j : Nat) (g : Nat → Int), (∀ i, i ≠ 4 → g i = w 144 i) → g 4 = j → skF x.t x.L (x.L - p) p = j → (j < x.L → ¬ isB (x.t j)) → (((x.L : Nat) : Int) ≤ ((x.M : Nat) : Int) → Wp (Cw (d + 1)) cd_M_next (0, 0, n1) Q 40 [mR 144, none, none, none] [] (ub (ub (ubf w 144 g) 144 12 (j : Int)) 144 13 0)) ∧ (¬ (((x.L : Nat) : Int) ≤ ((x.M : Nat) : Int)) → (((j : Int) < ((x.M : Nat) : Int) → Wp (Cw (d + 1)) cd_M_next (0, 0, n1) Q 40 [mR 144, none, none, none] [] (ub (ub (ubf w 144 g) 144 12 (j : Int)) 144 13 0)) ∧ (¬ ((j : Int) < ((x.M : Nat) : Int)) → Q none (ub (ub (ub (ub (ubf w 144 g) 144 12 (j : Int)) 144 13 0) 144 12 ((x.M : Nat) : Int)) 144 11 4)))) := by
    intro j g fr g4 qj hb
    rw [ub_on, ub_on]
    have fr' : ∀ i, i ≠ 4 → i ≠ 11 → i ≠ 12 → i ≠ 13 → i ≠ 14 → i ≠ 17 → (up1 (up1 g 12 (j : Int)) 13 0) i = w 144 i := fun i a b c d' e f => by rw [up1_ap, if_neg d', up1_ap, if_neg c]; exact fr i a
    have G : ¬ (x.M < x.L ∧ x.M ≤ j) → Wp (Cw (d + 1)) cd_M_next (0, 0, n1) Q 40 [mR 144, none, none, none] [] (ubf w 144 (up1 (up1 g 12 (j : Int)) 13 0)) := fun y => by
      rw [← qj] at y hb
      refine c40 _ fr' ?_ rfl ?_ y hb
      · rw [qj]; rfl
      · rw [qj]; exact g4
    refine ⟨fun y => G (by omega), fun y => ⟨fun y2 => G (by omega), fun y2 => ?_⟩⟩
    have kd : kdF x p = 1 := by unfold kdF; rw [if_pos (by omega), if_pos (by omega)]
    have pl : plF x p = x.M := by unfold plF; rw [if_pos (by omega)]; omega
    rw [ub_on, ub_on]
    exact k _ (MdT.mk (by rw [up1_ap, if_neg (by decide), up1_ap, if_pos rfl, pl]) (fun z => by omega) (fun _ => by rw [up1_ap, if_pos rfl]) (fun z => by omega) (fun z => by omega) (fun z => by omega) (fun z => by omega)) (fun i a b c d' e f => by rw [up1_ap, if_neg b, up1_ap, if_neg c]; exact fr' i a b c d' e f)
  have l0 : ∀ (m j : Nat) (g : Nat → Int), x.L - j = m → j ≤ x.L → (∀ i, i ≠ 4 → g i = w 144 i) → g 4 = j → skF x.t x.L (x.L - p) p = skF x.t x.L (x.L - j) j → Wp (Cw (d + 1)) cd_M_next (0, 0, n1) Q 0 [mR 144, none, none, none] [] (ubf w 144 g) := by
    intro m
    induction m with
    | zero =>
      intro j g hm hj fr g4 hs
      have qj : skF x.t x.L (x.L - p) p = j := by rw [hs, hm]; rfl
      have A := top j g fr g4 qj (fun a => by omega)
      have e3 : (ubf w 144 g) 144 3 = x.L := by rw [ubf_self, fr 3 (by decide), h3]
      have e5 : (ubf w 144 g) 144 5 = x.M := by rw [ubf_self, fr 5 (by decide), h5]
      have e4 : (ubf w 144 g) 144 4 = j := by rw [ubf_self, g4]
      apply M_next_144_c0
      rw [e3, e4, e5]
      exact tr0 (by left; omega) (fun _ => A) (fun y => absurd (by omega) y)
    | succ m ih =>
      intro j g hm hj fr g4 hs
      have e3 : (ubf w 144 g) 144 3 = x.L := by rw [ubf_self, fr 3 (by decide), h3]
      have e5 : (ubf w 144 g) 144 5 = x.M := by rw [ubf_self, fr 5 (by decide), h5]
      have e4 : (ubf w 144 g) 144 4 = j := by rw [ubf_self, g4]
      have et : iand ((ubf w 144 g) 145 j) 255 = x.t j := ht _ (by omega)
      by_cases z : isB (x.t j)
      · have G8 : Wp (Cw (d + 1)) cd_M_next (0, 0, n1) Q 8 [mR 144, none, none, none] [] (ubf w 144 g) := by
          apply M_next_144_c8
          rw [e4, ixs (k := j) (by omega), ub_on]
          refine ih (j + 1) _ (by omega) (by omega) (fun i a => by rw [up1_ap, if_neg a]; exact fr i a) (by rw [up1_ap, if_pos rfl]) ?_
          rw [hs, show x.L - j = (x.L - (j + 1)) + 1 by omega, skF_go (by omega) z]
        apply M_next_144_c0
        rw [e3, e4, e5, Int.toNat_natCast, et]
        refine tr0 (by right; omega) (fun y => ?_) (fun _ _ => G8)
        exfalso
        rcases y with y | y
        · clear two; omega
        · exact y z
      · have qj : skF x.t x.L (x.L - p) p = j := by rw [hs, skF_stop (fun y => z y.2)]
        have A := top j g fr g4 qj (fun _ => z)
        apply M_next_144_c0
        rw [e3, e4, e5, Int.toNat_natCast, et]
        exact tr0 (by right; omega) (fun _ => A) (fun _ y => absurd y z)
  have := l0 (x.L - p) p (w 144) rfl hp (fun i _ => rfl) h4 rfl
  rw [ubf_sf0] at this
  exact this
