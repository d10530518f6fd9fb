/-! the tokens of a text -/
abbrev Tx : Type := (Nat → Int) × (Nat) × (Nat)
abbrev Tx.t (h_ : Tx) : Nat → Int := h_.1
abbrev Tx.L (h_ : Tx) : Nat := h_.2.1
abbrev Tx.M (h_ : Tx) : Nat := h_.2.2
def isB (c : Int) : Prop := c = 32 ∨ c = 10
def isS (c : Int) : Prop := 97 ≤ c ∧ c ≤ 122
def isD (c : Int) : Prop := 48 ≤ c ∧ c ≤ 57
def isR (c : Int) : Prop := isS c ∨ isD c
abbrev rdb (x : Tx) : Nat := min x.L x.M
noncomputable def skF (t : Nat → Int) (R : Nat) : Nat → Nat → Nat
  | 0, p => p
  | m + 1, p => @ite _ (p < R ∧ isB (t p)) (Classical.propDecidable _) (skF t R m (p + 1)) p
noncomputable def ruF (t : Nat → Int) (L : Nat) : Nat → Nat → Nat
  | 0, p => p
  | m + 1, p => @ite _ (p < L ∧ isR (t p)) (Classical.propDecidable _) (ruF t L m (p + 1)) p
noncomputable def dgF (t : Nat → Int) (q : Nat) : Nat → Nat
  | 0 => 0
  | n + 1 => dgF t q n + @ite _ (isD (t (q + n))) (Classical.propDecidable _) 1 0
def nuF (t : Nat → Int) (q : Nat) : Nat → Int
  | 0 => 0
  | n + 1 => nuF t q n * 10 + (t (q + n) - 48)
def sgF (t : Nat → Int) (q : Nat) : Nat → List Int
  | 0 => []
  | n + 1 => sgF t q n ++ [t (q + n)]
theorem skF_go {t : Nat → Int} {R m p : Nat} (h : p < R) (b : isB (t p)) : skF t R (m + 1) p = skF t R m (p + 1) := by
  show @ite _ (p < R ∧ isB (t p)) (Classical.propDecidable _) (skF t R m (p + 1)) p = _
  rw [if_pos ⟨h, b⟩]
theorem skF_stop {t : Nat → Int} {R p : Nat} (h : ¬ (p < R ∧ isB (t p))) : ∀ m, skF t R m p = p
  | 0 => rfl
  | m + 1 => by
    show @ite _ (p < R ∧ isB (t p)) (Classical.propDecidable _) (skF t R m (p + 1)) p = _
    rw [if_neg h]
theorem ruF_go {t : Nat → Int} {L m p : Nat} (h : p < L) (b : isR (t p)) : ruF t L (m + 1) p = ruF t L m (p + 1) := by
  show @ite _ (p < L ∧ isR (t p)) (Classical.propDecidable _) (ruF t L m (p + 1)) p = _
  rw [if_pos ⟨h, b⟩]
theorem ruF_stop {t : Nat → Int} {L p : Nat} (h : ¬ (p < L ∧ isR (t p))) : ∀ m, ruF t L m p = p
  | 0 => rfl
  | m + 1 => by
    show @ite _ (p < L ∧ isR (t p)) (Classical.propDecidable _) (ruF t L m (p + 1)) p = _
    rw [if_neg h]
theorem skF_ge (t : Nat → Int) (R : Nat) : ∀ m p, p ≤ skF t R m p
  | 0, p => Nat.le_refl _
  | m + 1, p => by
    by_cases z : p < R ∧ isB (t p)
    · rw [skF_go z.1 z.2]
      have := skF_ge t R m (p + 1)
      omega
    · rw [skF_stop z]; exact Nat.le_refl _
theorem ruF_ge (t : Nat → Int) (L : Nat) : ∀ m p, p ≤ ruF t L m p
  | 0, p => Nat.le_refl _
  | m + 1, p => by
    by_cases z : p < L ∧ isR (t p)
    · rw [ruF_go z.1 z.2]
      have := ruF_ge t L m (p + 1)
      omega
    · rw [ruF_stop z]; exact Nat.le_refl _
theorem ruF_le (t : Nat → Int) (L : Nat) : ∀ m p, p ≤ L → ruF t L m p ≤ L
  | 0, p, h => h
  | m + 1, p, h => by
    by_cases z : p < L ∧ isR (t p)
    · rw [ruF_go z.1 z.2]
      exact ruF_le t L m (p + 1) z.1
    · rw [ruF_stop z]; exact h
theorem ruF_run (t : Nat → Int) (L : Nat) : ∀ m p j, p ≤ j → j < ruF t L m p → isR (t j)
  | 0, p, j, h, h2 => by
    have h2 : j < p := h2
    omega
  | m + 1, p, j, h, h2 => by
    by_cases z : p < L ∧ isR (t p)
    · rw [ruF_go z.1 z.2] at h2
      by_cases q : j = p
      · rw [q]; exact z.2
      · exact ruF_run t L m (p + 1) j (by omega) h2
    · rw [ruF_stop z] at h2; omega
theorem dgF_le (t : Nat → Int) (q : Nat) : ∀ n, dgF t q n ≤ n
  | 0 => Nat.le_refl _
  | n + 1 => by
    have := dgF_le t q n
    show dgF t q n + @ite _ (isD (t (q + n))) (Classical.propDecidable _) 1 0 ≤ n + 1
    by_cases z : isD (t (q + n))
    · rw [if_pos z]; omega
    · rw [if_neg z]; omega
theorem sgF_len (t : Nat → Int) (q : Nat) : ∀ n, (sgF t q n).length = n
  | 0 => rfl
  | n + 1 => by
    show (sgF t q n ++ [t (q + n)]).length = n + 1
    rw [List.length_append, sgF_len t q n]; rfl
theorem f27_snoc (l : List Int) (c : Int) : f27 (l ++ [c]) = f27 l * 27 + (c - 96) := by
  unfold f27
  rw [List.foldl_append]; rfl
theorem f256_snoc (l : List Int) (c : Int) : f256 (l ++ [c]) = f256 l * 256 + c := by
  unfold f256
  rw [List.foldl_append]; rfl
/-- the token read from p on -/
noncomputable def qF (x : Tx) (p : Nat) : Nat := skF x.t (rdb x) (rdb x - p) p
noncomputable def eF (x : Tx) (p : Nat) : Nat := ruF x.t x.L (x.L - qF x p) (qF x p)
noncomputable def kdF (x : Tx) (p : Nat) : Nat :=
  if rdb x ≤ qF x p then (if rdb x < x.L then 1 else 0)
  else if eF x p = qF x p then (if x.t (qF x p) = 59 then 3 else 2)
  else if dgF x.t (qF x p) (eF x p - qF x p) = eF x p - qF x p ∧ eF x p - qF x p ≤ 3 then 4
  else if dgF x.t (qF x p) (eF x p - qF x p) = 0 ∧ eF x p - qF x p ≤ 6 then 5 else 2
noncomputable def plF (x : Tx) (p : Nat) : Nat := if rdb x ≤ qF x p then rdb x else qF x p
noncomputable def nxF (x : Tx) (p : Nat) : Nat := if eF x p = qF x p then qF x p + 1 else eF x p
noncomputable def vnF (x : Tx) (p : Nat) : Int := nuF x.t (qF x p) (eF x p - qF x p)
noncomputable def liF (x : Tx) (p : Nat) : List Int := sgF x.t (qF x p) (eF x p - qF x p)
def TxO (x : Tx) : Prop := (x.L ≤ 1040) ∧ (x.M ≤ 1040) ∧ (∀ i, i < 1040 → 0 ≤ x.t i ∧ x.t i ≤ 255)
theorem TxO.mk {x : Tx} (L_ : x.L ≤ 1040) (M_ : x.M ≤ 1040) (t_ : ∀ i, i < 1040 → 0 ≤ x.t i ∧ x.t i ≤ 255) : TxO x := And.intro L_ (And.intro M_ (t_))
theorem TxO.L {x : Tx} (h_ : TxO x) : x.L ≤ 1040 := h_.1
theorem TxO.M {x : Tx} (h_ : TxO x) : x.M ≤ 1040 := h_.2.1
theorem TxO.t {x : Tx} (h_ : TxO x) : ∀ i, i < 1040 → 0 ≤ x.t i ∧ x.t i ≤ 255 := h_.2.2
/-- the class's token -/
def ClT (o : Nat → Int) (x : Tx) (p : Nat) : Prop := (o 2 = x.L) ∧ (o 3 = rdb x) ∧ (o 7 = plF x p) ∧ (kdF x p = 0 → o 5 = 0) ∧ (kdF x p = 1 → o 5 = 1) ∧ (kdF x p = 2 → o 5 = 2) ∧ (kdF x p = 3 → o 5 = 3 ∧ o 4 = nxF x p) ∧ (kdF x p = 4 → o 5 = 4 ∧ o 4 = nxF x p ∧ o 6 = vnF x p) ∧ (kdF x p = 5 → o 4 = nxF x p ∧ ((o 5 = 5 ∧ ∃ i : Nat, i < 17 ∧ o 6 = i ∧ nthA 0 tokK i = f27 (liF x p)) ∨ (o 5 = 6 ∧ o 6 = f27 (liF x p) ∧ ∀ i, i < 17 → nthA 0 tokK i ≠ f27 (liF x p))))
theorem ClT.mk {o : Nat → Int} {x : Tx} {p : Nat} (len_ : o 2 = x.L) (rd'_ : o 3 = rdb x) (pl_ : o 7 = plF x p) (k0_ : kdF x p = 0 → o 5 = 0) (k1_ : kdF x p = 1 → o 5 = 1) (k2_ : kdF x p = 2 → o 5 = 2) (k3_ : kdF x p = 3 → o 5 = 3 ∧ o 4 = nxF x p) (k4_ : kdF x p = 4 → o 5 = 4 ∧ o 4 = nxF x p ∧ o 6 = vnF x p) (k5_ : kdF x p = 5 → o 4 = nxF x p ∧ ((o 5 = 5 ∧ ∃ i : Nat, i < 17 ∧ o 6 = i ∧ nthA 0 tokK i = f27 (liF x p)) ∨ (o 5 = 6 ∧ o 6 = f27 (liF x p) ∧ ∀ i, i < 17 → nthA 0 tokK i ≠ f27 (liF x p)))) : ClT o x p := And.intro len_ (And.intro rd'_ (And.intro pl_ (And.intro k0_ (And.intro k1_ (And.intro k2_ (And.intro k3_ (And.intro k4_ (k5_))))))))
theorem ClT.len {o : Nat → Int} {x : Tx} {p : Nat} (h_ : ClT o x p) : o 2 = x.L := h_.1
theorem ClT.rd' {o : Nat → Int} {x : Tx} {p : Nat} (h_ : ClT o x p) : o 3 = rdb x := h_.2.1
theorem ClT.pl {o : Nat → Int} {x : Tx} {p : Nat} (h_ : ClT o x p) : o 7 = plF x p := h_.2.2.1
theorem ClT.k0 {o : Nat → Int} {x : Tx} {p : Nat} (h_ : ClT o x p) : kdF x p = 0 → o 5 = 0 := h_.2.2.2.1
theorem ClT.k1 {o : Nat → Int} {x : Tx} {p : Nat} (h_ : ClT o x p) : kdF x p = 1 → o 5 = 1 := h_.2.2.2.2.1
theorem ClT.k2 {o : Nat → Int} {x : Tx} {p : Nat} (h_ : ClT o x p) : kdF x p = 2 → o 5 = 2 := h_.2.2.2.2.2.1
theorem ClT.k3 {o : Nat → Int} {x : Tx} {p : Nat} (h_ : ClT o x p) : kdF x p = 3 → o 5 = 3 ∧ o 4 = nxF x p := h_.2.2.2.2.2.2.1
theorem ClT.k4 {o : Nat → Int} {x : Tx} {p : Nat} (h_ : ClT o x p) : kdF x p = 4 → o 5 = 4 ∧ o 4 = nxF x p ∧ o 6 = vnF x p := h_.2.2.2.2.2.2.2.1
theorem ClT.k5 {o : Nat → Int} {x : Tx} {p : Nat} (h_ : ClT o x p) : kdF x p = 5 → o 4 = nxF x p ∧ ((o 5 = 5 ∧ ∃ i : Nat, i < 17 ∧ o 6 = i ∧ nthA 0 tokK i = f27 (liF x p)) ∨ (o 5 = 6 ∧ o 6 = f27 (liF x p) ∧ ∀ i, i < 17 → nthA 0 tokK i ≠ f27 (liF x p))) := h_.2.2.2.2.2.2.2.2
theorem nuF_bd {t : Nat → Int} {q : Nat} : ∀ n, (∀ j, j < n → isD (t (q + j))) → 0 ≤ nuF t q n ∧ nuF t q n < (10 : Int) ^ n
  | 0, _ => by
    show (0 : Int) ≤ 0 ∧ (0 : Int) < 10 ^ 0
    rw [Int.pow_zero]; omega
  | n + 1, h => by
    have h1 := nuF_bd n (fun j hj => h j (by omega))
    have h2 := h n (by omega)
    unfold isD at h2
    show 0 ≤ nuF t q n * 10 + (t (q + n) - 48) ∧ nuF t q n * 10 + (t (q + n) - 48) < (10 : Int) ^ (n + 1)
    rw [Int.pow_succ]
    omega
theorem f27_bd {t : Nat → Int} {q : Nat} : ∀ n, (∀ j, j < n → isS (t (q + j))) → 0 ≤ f27 (sgF t q n) ∧ f27 (sgF t q n) < (27 : Int) ^ n
  | 0, _ => by
    show (0 : Int) ≤ 0 ∧ (0 : Int) < 27 ^ 0
    rw [Int.pow_zero]; omega
  | n + 1, h => by
    have h1 := f27_bd n (fun j hj => h j (by omega))
    have h2 := h n (by omega)
    unfold isS at h2
    show 0 ≤ f27 (sgF t q n ++ [t (q + n)]) ∧ f27 (sgF t q n ++ [t (q + n)]) < (27 : Int) ^ (n + 1)
    rw [f27_snoc, Int.pow_succ]
    omega
theorem dgF_all {t : Nat → Int} {q : Nat} : ∀ n, dgF t q n = n → ∀ j, j < n → isD (t (q + j))
  | 0, _, j, hj => absurd hj (Nat.not_lt_zero _)
  | n + 1, h, j, hj => by
    have h : dgF t q n + @ite _ (isD (t (q + n))) (Classical.propDecidable _) 1 0 = n + 1 := h
    have le := dgF_le t q n
    by_cases z : isD (t (q + n))
    · rw [if_pos z] at h
      by_cases e : j = n
      · rw [e]; exact z
      · exact dgF_all n (by omega) j (by omega)
    · rw [if_neg z] at h; omega
theorem dgF_none {t : Nat → Int} {q : Nat} : ∀ n, dgF t q n = 0 → ∀ j, j < n → ¬ isD (t (q + j))
  | 0, _, j, hj => absurd hj (Nat.not_lt_zero _)
  | n + 1, h, j, hj => by
    have h : dgF t q n + @ite _ (isD (t (q + n))) (Classical.propDecidable _) 1 0 = 0 := h
    by_cases z : isD (t (q + n))
    · rw [if_pos z] at h; omega
    · rw [if_neg z] at h
      by_cases e : j = n
      · rw [e]; exact z
      · exact dgF_none n (by omega) j (by omega)
/-- the class's word: its code, and which of the words it is -/
theorem S_takeWord {d : Nat} {Q : MV → Wd → Prop} {w : Wd} {x : Tx} (ht : ∀ i, i < 1040 → w 1 i = x.t i) (q n : Nat) (hn : n ≤ 6) (hq : q + n ≤ 1040) (h7 : w 2 7 = q) (h6 : w 2 6 = 0) (hw : ∀ i, i < 17 → w 3 i = nthA 0 tokK i) (hs : ∀ j, j < n → isS (x.t (q + j)))
    (k : ∀ o : Nat → Int, (∀ i, i ≠ 5 → i ≠ 6 → o i = w 2 i) → ((o 5 = 5 ∧ ∃ i : Nat, i < 17 ∧ o 6 = i ∧ nthA 0 tokK i = f27 (sgF x.t q n)) ∨ (o 5 = 6 ∧ o 6 = f27 (sgF x.t q n) ∧ ∀ i, i < 17 → nthA 0 tokK i ≠ f27 (sgF x.t q n))) → Q none (ubf w 2 o)) : Cw (d + 1) 22 [mR 2, mI (q + n : Nat)] w Q := by
  apply Tokens_takeWord_2_en
  intro n1
  have l28 : ∀ (m i : Nat) (o : Nat → Int), i + m = 17 → (∀ i, i ≠ 5 → i ≠ 6 → o i = w 2 i) → ((o 5 = 5 ∧ ∃ j : Nat, j < 17 ∧ o 6 = j ∧ nthA 0 tokK j = f27 (sgF x.t q n)) ∨ (o 5 = 6 ∧ o 6 = f27 (sgF x.t q n) ∧ ∀ j, j < i → nthA 0 tokK j ≠ f27 (sgF x.t q n))) → Wp (Cw (d + 0)) cd_Tokens_takeWord (0, 0, n1) Q 28 [mR 2, none, mI i] [] (ubf w 2 o) := by
    intro m
    induction m with
    | zero =>
      intro i o hi ho h
      have : i = 17 := by omega
      subst this
      apply Tokens_takeWord_2_c28
      exact ⟨fun _ => k o ho h, fun z => by exfalso; omega⟩
    | succ m ih =>
      intro i o hi ho h
      have e5 : (ubf w 2 o) 2 5 = o 5 := by rw [ubf_self]
      have e6 : (ubf w 2 o) 2 6 = o 6 := by rw [ubf_self]
      have e3 : (ubf w 2 o) 3 i = nthA 0 tokK i := hw i (by omega)
      apply Tokens_takeWord_2_c28
      rw [e5, e6, Int.toNat_natCast, e3, ixs (k := i) (by omega), ub_on, ub_on]
      refine ⟨fun z => by exfalso; omega, fun _ => ⟨fun z => ?_, fun z => ⟨by omega, fun z2 => ?_, fun z2 => ?_⟩⟩⟩
      · rcases h with h | h
        · exact k o ho (Or.inl h)
        · exact absurd h.1 z
      · have z := Classical.not_not.mp z
        rcases h with h | ⟨a, b, c⟩
        · omega
        · refine ih (i + 1) o (by omega) ho (Or.inr ⟨a, b, fun j hj => ?_⟩)
          by_cases e : j = i
          · rw [e, ← b]; exact z2
          · exact c j (by omega)
      · have z := Classical.not_not.mp z
        have z2 := Classical.not_not.mp z2
        rcases h with h | ⟨a, b, c⟩
        · omega
        · refine ih (i + 1) _ (by omega) (fun j j5 j6 => by rw [up1_ap, if_neg j6, up1_ap, if_neg j5]; exact ho j j5 j6) (Or.inl ⟨by rw [up1_ap, if_neg (by decide), up1_ap, if_pos rfl], i, by omega, by rw [up1_ap, if_pos rfl], by rw [z2, b]⟩)
  have l6 : ∀ (m i : Nat) (o : Nat → Int), i + m = n → (∀ i, i ≠ 5 → i ≠ 6 → o i = w 2 i) → o 5 = 6 → o 6 = f27 (sgF x.t q i) → Wp (Cw (d + 0)) cd_Tokens_takeWord (0, 0, n1) Q 6 [mR 2, mI (q + n : Nat), mI (q + i : Nat)] [] (ubf w 2 o) := by
    intro m
    induction m with
    | zero =>
      intro i o hi ho h5 h6
      have : i = n := by omega
      subst this
      apply Tokens_takeWord_2_c6
      exact ⟨fun _ => l28 17 0 o (by omega) ho (Or.inr ⟨h5, h6, fun j hj => absurd hj (Nat.not_lt_zero _)⟩), fun z => absurd (Int.le_refl _) z⟩
    | succ m ih =>
      intro i o hi ho h5 h6
      have e6 : (ubf w 2 o) 2 6 = o 6 := by rw [ubf_self]
      have e1 : (ubf w 2 o) 1 (q + i) = x.t (q + i) := ht _ (by omega)
      have b := f27_bd (t := x.t) (q := q) i (fun j hj => hs j (by omega))
      have pw : (27 : Int) ^ i ≤ 27 ^ 5 := by
        have := Nat.pow_le_pow_right (n := 27) (by omega) (show i ≤ 5 by omega)
        exact_mod_cast this
      rw [show (27 : Int) ^ 5 = 14348907 from rfl] at pw
      have c := hs i (by omega)
      unfold isS at c
      have es : f27 (sgF x.t q (i + 1)) = f27 (sgF x.t q i) * 27 + (x.t (q + i) - 96) := f27_snoc _ _
      apply Tokens_takeWord_2_c6
      rw [e6, Int.toNat_natCast, e1, h6, ub_on, ixs (k := q + i) (by omega)]
      rw [w32_id (x := f27 (sgF x.t q i) * 27) (by unfold in32; omega), w32_id (x := f27 (sgF x.t q i) * 27 + x.t (q + i)) (by unfold in32; omega), w32_id (x := f27 (sgF x.t q i) * 27 + x.t (q + i) - 97) (by unfold in32; omega), w32_id (by unfold in32; omega)]
      refine ⟨fun z => by exfalso; omega, fun _ => ⟨by omega, ?_⟩⟩
      refine ih (i + 1) _ (by omega) (fun j j5 j6 => by rw [up1_ap, if_neg j6]; exact ho j j5 j6) (by rw [up1_ap, if_neg (by decide)]; exact h5) ?_
      rw [up1_ap, if_pos rfl, es]; omega
  have L := l6 n 0 (up1 (w 2) 5 6) (by omega) (fun j j5 j6 => by rw [up1_ap, if_neg j5]) (by rw [up1_ap, if_pos rfl]) (by rw [up1_ap, if_neg (by decide)]; exact h6)
  rw [h7]
  exact L
/-- the class's run of letters and digits -/
theorem S_takeRun {d : Nat} {Q : MV → Wd → Prop} {w : Wd} {x : Tx} (ht : ∀ i, i < 1040 → w 1 i = x.t i) (q n : Nat) (hn0 : 0 < n) (hq : q + n ≤ 1040) (h7 : w 2 7 = q) (h6 : w 2 6 = 0) (hw : ∀ i, i < 17 → w 3 i = nthA 0 tokK i) (hr : ∀ j, j < n → isR (x.t (q + j)))
    (k2 : ∀ o : Nat → Int, (∀ i, i ≠ 5 → i ≠ 6 → o i = w 2 i) → o 5 = 2 → ¬ (dgF x.t q n = n ∧ n ≤ 3) → ¬ (dgF x.t q n = 0 ∧ n ≤ 6) → Q none (ubf w 2 o))
    (k4 : ∀ o : Nat → Int, (∀ i, i ≠ 5 → i ≠ 6 → o i = w 2 i) → dgF x.t q n = n ∧ n ≤ 3 → o 5 = 4 → o 6 = nuF x.t q n → Q none (ubf w 2 o))
    (k5 : ∀ o : Nat → Int, (∀ i, i ≠ 5 → i ≠ 6 → o i = w 2 i) → ¬ (dgF x.t q n = n ∧ n ≤ 3) → dgF x.t q n = 0 ∧ n ≤ 6 → ((o 5 = 5 ∧ ∃ i : Nat, i < 17 ∧ o 6 = i ∧ nthA 0 tokK i = f27 (sgF x.t q n)) ∨ (o 5 = 6 ∧ o 6 = f27 (sgF x.t q n) ∧ ∀ i, i < 17 → nthA 0 tokK i ≠ f27 (sgF x.t q n))) → Q none (ubf w 2 o)) : Cw (d + 2) 21 [mR 2, mI (q + n : Nat), mI (dgF x.t q n : Nat)] w Q := by
  have ew : w32 (((q + n : Nat) : Int) - (q : Int)) = (n : Int) := by rw [w32_id (by unfold in32; omega)]; omega
  have bad : ¬ (dgF x.t q n = n ∧ n ≤ 3) → ¬ (dgF x.t q n = 0 ∧ n ≤ 6) → Q none (ub w 2 5 2) := fun a b => k2 (up1 (w 2) 5 2) (fun i i5 _ => by rw [up1_ap, if_neg i5]) (by rw [up1_ap, if_pos rfl]) a b
  have word : ¬ (dgF x.t q n = n ∧ n ≤ 3) → dgF x.t q n = 0 ∧ n ≤ 6 → Cw (d + 1) 22 [mR 2, mI (q + n : Nat)] w (fun _ v4 => Q none v4) := fun a b => by
    refine S_takeWord (d := d) ht q n b.2 hq h7 h6 hw (fun j hj => ?_) (fun o ho h => k5 o ho a b h)
    rcases hr j hj with z | z
    · exact z
    · exact absurd z (dgF_none n b.1 j hj)
  apply Tokens_takeRun_2_en
  intro n1
  rw [h7, ew]
  refine ⟨fun z => ⟨fun z2 => bad (fun y => z (by omega)) (fun y => z2 (by omega)), fun z2 => ⟨fun z3 => bad (fun y => z (by omega)) (fun y => by omega), fun z3 => word (fun y => z (by omega)) ⟨by omega, by omega⟩⟩⟩, fun z => ⟨fun z3 => ⟨fun z2 => bad (fun y => by omega) (fun y => z2 (by omega)), fun z2 => by exfalso; omega⟩, fun z3 => ?_⟩⟩
  have dn : dgF x.t q n = n := by omega
  have ds := dgF_all n dn
  have lp : ∀ (m i : Nat) (o : Nat → Int), i + m = n → (∀ i, i ≠ 5 → i ≠ 6 → o i = w 2 i) → o 5 = 4 → o 6 = nuF x.t q i → Wp (Cw (d + 1)) cd_Tokens_takeRun (0, 0, n1) Q 17 [mR 2, mI (q + n : Nat), none, none, mI (q + i : Nat)] [] (ubf w 2 o) := by
    intro m
    induction m with
    | zero =>
      intro i o hi ho h5 h6
      have : i = n := by omega
      subst this
      apply Tokens_takeRun_2_c17
      exact ⟨fun _ => k4 o ho ⟨dn, by omega⟩ h5 h6, fun y => absurd (Int.le_refl _) y⟩
    | succ m ih =>
      intro i o hi ho h5 h6
      have e6 : (ubf w 2 o) 2 6 = o 6 := by rw [ubf_self]
      have e1 : (ubf w 2 o) 1 (q + i) = x.t (q + i) := ht _ (by omega)
      have b := nuF_bd (t := x.t) (q := q) i (fun j hj => ds j (by omega))
      have pw : (10 : Int) ^ i ≤ 10 ^ 3 := by
        have := Nat.pow_le_pow_right (n := 10) (by omega) (show i ≤ 3 by omega)
        exact_mod_cast this
      rw [show (10 : Int) ^ 3 = 1000 from rfl] at pw
      have c := ds i (by omega)
      unfold isD at c
      have es : nuF x.t q (i + 1) = nuF x.t q i * 10 + (x.t (q + i) - 48) := rfl
      apply Tokens_takeRun_2_c17
      rw [e6, Int.toNat_natCast, e1, h6, ub_on, ixs (k := q + i) (by omega)]
      rw [w32_id (x := nuF x.t q i * 10) (by unfold in32; omega), w32_id (x := nuF x.t q i * 10 + x.t (q + i)) (by unfold in32; omega), w32_id (by unfold in32; omega)]
      refine ⟨fun y => by exfalso; omega, fun _ => ⟨by omega, ?_⟩⟩
      refine ih (i + 1) _ (by omega) (fun j j5 j6 => by rw [up1_ap, if_neg j6]; exact ho j j5 j6) (by rw [up1_ap, if_neg (by decide)]; exact h5) ?_
      rw [up1_ap, if_pos rfl, es]; omega
  exact lp n 0 (up1 (w 2) 5 4) (by omega) (fun j j5 j6 => by rw [up1_ap, if_neg j5]) (by rw [up1_ap, if_pos rfl]) (by rw [up1_ap, if_neg (by decide)]; exact h6)
