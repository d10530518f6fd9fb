theorem S_copyAll {d : Nat} {Q : MV → Wd → Prop} {w : Wd} (f t : Nat) (n : Nat) (hf : kd f = 20) (ht : kd t = 20) (zf : szI f = n) (zt : szI t = n) (nf : ¬ f = 400) (nt : ¬ t = 400)
    (k : ∀ g : Nat → Int, (∀ i, i < n → g i = w f i) → (∀ i, n ≤ i → g i = w t i) → Q none (ubf w t g)) : Cw (d + 1) 48 [mR f, mR t] w Q := by
  apply Cw_in (by decide) (by decide) (Nat.le_of_ble_eq_true rfl)
  intro n1
  have af : alen w f = n := by unfold alen; rw [if_neg nf]; exact zf
  have at' : alen w t = n := by unfold alen; rw [if_neg nt]; exact zt
  show Wp (Cw d) cd_X_copyAll (0, 0, n1) Q 0 [mR f, mR t] [] w
  apply Wp.s
  apply Wp.s
  apply Wp.s
  apply Wp.s
  apply Wp.s
  apply Wp.s
  show (if kd f = 20 ∨ kd f = 21 ∨ kd f = 24 ∨ (kd f = 30 ∧ (0 : Nat) = 2) then Wp (Cw d) cd_X_copyAll (0, 0, n1) Q 6 [mR f, mR t] [mI (alen w f), mI 0, mR t, mI 0, mR f] w else False)
  rw [if_pos (Or.inl hf)]
  apply Wp.s
  apply Wp.s
  show (if kd t = 20 ∨ kd t = 21 ∨ kd t = 24 ∨ (kd t = 30 ∧ (0 : Nat) = 2) then Wp (Cw d) cd_X_copyAll (0, 0, n1) Q 8 [mR f, mR t] [mI (alen w t), mI (alen w f), mI 0, mR t, mI 0, mR f] w else False)
  rw [if_pos (Or.inl ht), af, at']
  apply Wp.s
  show (if catS [mI 0, mR t, mI 0, mR f] ≤ 8 then Wp (Cw d) cd_X_copyAll (0, 0, n1) Q 9 [mR f, mR t] [mI (min (n : Int) n), mI 0, mR t, mI 0, mR f] w else False)
  rw [if_pos (Nat.le_of_ble_eq_true rfl), Int.min_self]
  apply Wp.s
  show (if (kd f = 20 ∧ kd t = 20) ∧ catS [] ≤ 8 then ((0 : Int) ≤ n ∧ (0 : Int) ≤ 0 ∧ (0 : Int) ≤ 0 ∧ (0 : Int) + n ≤ alen w f ∧ (0 : Int) + n ≤ alen w t) ∧ Wp (Cw d) cd_X_copyAll (0, 0, n1) Q 10 [mR f, mR t] [] (ubf w t (cpyf (w f) (w t) (0 : Int).toNat (0 : Int).toNat (n : Int).toNat)) else False)
  rw [if_pos ⟨⟨hf, ht⟩, by decide⟩, af, at']
  refine And.intro (by omega) ?_
  apply Wp.s
  apply k
  · intro i hi
    show (if (0 : Int).toNat ≤ i ∧ i < (0 : Int).toNat + (n : Int).toNat then w f ((0 : Int).toNat + (i - (0 : Int).toNat)) else w t i) = w f i
    rw [if_pos (by constructor <;> simp <;> omega)]
    congr 1; simp
  · intro i hi
    show (if (0 : Int).toNat ≤ i ∧ i < (0 : Int).toNat + (n : Int).toNat then w f ((0 : Int).toNat + (i - (0 : Int).toNat)) else w t i) = w t i
    rw [if_neg (by simp; omega)]
