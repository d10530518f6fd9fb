theorem ubf_sf0 (w : Wd) (c : Nat) : ubf w c (w c) = w := by funext a i; rw [ubf_ap]; split <;> simp_all
theorem S_fillI {d : Nat} {Q : MV → Wd → Prop} {w : Wd} (h : Nat) (n : Nat) (v : Int) (hk : kd h = 20) (hz : szI h = n) (hn : n < 100000) (nh : ¬ h = 400)
    (k : ∀ g : Nat → Int, (∀ i, i < n → g i = v) → (∀ i, n ≤ i → g i = w h i) → Q none (ubf w h g)) : Cw (d + 1) 276 [mR h, mI v] w Q := by
  apply Cw_in (by decide) (by decide) (Nat.le_of_ble_eq_true rfl)
  intro n1
  have al : ∀ w : Wd, alen w h = n := fun w => by unfold alen; rw [if_neg nh]; exact hz
  have lp : ∀ (r i : Nat) (w : Wd), i + r = n → (∀ g : Nat → Int, (∀ j, i ≤ j → j < n → g j = v) → (∀ j, j < i ∨ n ≤ j → g j = w h j) → Q none (ubf w h g)) → Wp (Cw d) cd_JA_fillI (0, 3, n1) Q 5 [mR h, mI v, mI i, mI n] [] w := by
    intro r
    induction r with
    | zero =>
      intro i w hi k
      apply Wp.s; apply Wp.s; apply Wp.s
      refine ⟨fun _ => ?_, fun q => absurd (show (n : Int) ≤ i by omega) q⟩
      apply Wp.s
      have := k (w h) (fun j h1 h2 => by omega) (fun j _ => rfl)
      rwa [ubf_sf0] at this
    | succ r ih =>
      intro i w hi k
      apply Wp.s; apply Wp.s; apply Wp.s
      refine ⟨fun q => absurd (show (n : Int) ≤ i from q) (by omega), fun _ => ?_⟩
      apply Wp.s; apply Wp.s; apply Wp.s; apply Wp.s
      show (if kd h = 20 then (0 ≤ (i : Int) ∧ (i : Int) < alen w h) ∧ Wp (Cw d) cd_JA_fillI (0, 3, n1) Q 12 [mR h, mI v, mI i, mI n] [] (ub w h (i : Int).toNat v) else False)
      rw [if_pos hk, al]
      refine And.intro (by omega) ?_
      apply Wp.s
      show Wp (Cw d) cd_JA_fillI (0, 3, n1) Q 13 [mR h, mI v, mI (w32 ((i : Int) + 1)), mI n] [] (ub w h (i : Int).toNat v)
      rw [w32_id (by unfold in32; omega), Int.toNat_natCast]
      apply Wp.s
      refine ih (i + 1) _ (by omega) ?_
      intro g g1 g2
      have h3 := k g (fun j h1 h2 => by
        by_cases q : j = i
        · subst q
          rw [g2 _ (by omega), ub_ap, if_pos rfl, if_pos rfl]
        · exact g1 j (by omega) h2) (fun j hj => by
          rw [g2 j (by omega), ub_ap, if_pos rfl, if_neg (by omega)])
      refine cw_ h3 ?_
      (funext c i; simp (decide := true) only [ub_ap, ubf_ap, up1_ap, ↓reduceIte]; (repeat' split) <;> first | rfl | omega | (simp_all; done) | (subst_vars; simp_all; done))
  apply Wp.s; apply Wp.s; apply Wp.s; apply Wp.s
  show (if kd h = 20 ∨ kd h = 21 ∨ kd h = 24 ∨ (kd h = 30 ∧ (3 : Nat) = 2) then Wp (Cw d) cd_JA_fillI (0, 3, n1) Q 4 [mR h, mI v, mI 0, none] [mI (alen w h)] w else False)
  rw [if_pos (Or.inl hk), al]
  apply Wp.s
  exact lp n 0 w (by omega) (fun g g1 g2 => k g (fun i hi => g1 i (by omega) hi) (fun i hi => g2 i (Or.inr hi)))
theorem S_fillL {d : Nat} {Q : MV → Wd → Prop} {w : Wd} (h : Nat) (n : Nat) (v : Int) (hk : kd h = 21) (hz : szI h = n) (hn : n < 100000) (nh : ¬ h = 400)
    (k : ∀ g : Nat → Int, (∀ i, i < n → g i = v) → (∀ i, n ≤ i → g i = w h i) → Q none (ubf w h g)) : Cw (d + 1) 277 [mR h, mL v] w Q := by
  apply Cw_in (by decide) (by decide) (Nat.le_of_ble_eq_true rfl)
  intro n1
  have al : ∀ w : Wd, alen w h = n := fun w => by unfold alen; rw [if_neg nh]; exact hz
  have lp : ∀ (r i : Nat) (w : Wd), i + r = n → (∀ g : Nat → Int, (∀ j, i ≤ j → j < n → g j = v) → (∀ j, j < i ∨ n ≤ j → g j = w h j) → Q none (ubf w h g)) → Wp (Cw d) cd_JA_fillL (0, 3, n1) Q 5 [mR h, mL v, none, mI i, mI n] [] w := by
    intro r
    induction r with
    | zero =>
      intro i w hi k
      apply Wp.s; apply Wp.s; apply Wp.s
      refine ⟨fun _ => ?_, fun q => absurd (show (n : Int) ≤ i by omega) q⟩
      apply Wp.s
      have := k (w h) (fun j h1 h2 => by omega) (fun j _ => rfl)
      rwa [ubf_sf0] at this
    | succ r ih =>
      intro i w hi k
      apply Wp.s; apply Wp.s; apply Wp.s
      refine ⟨fun q => absurd (show (n : Int) ≤ i from q) (by omega), fun _ => ?_⟩
      apply Wp.s; apply Wp.s; apply Wp.s; apply Wp.s
      show (if kd h = 21 then (0 ≤ (i : Int) ∧ (i : Int) < alen w h) ∧ Wp (Cw d) cd_JA_fillL (0, 3, n1) Q 12 [mR h, mL v, none, mI i, mI n] [] (ub w h (i : Int).toNat v) else False)
      rw [if_pos hk, al]
      refine And.intro (by omega) ?_
      apply Wp.s
      show Wp (Cw d) cd_JA_fillL (0, 3, n1) Q 13 [mR h, mL v, none, mI (w32 ((i : Int) + 1)), mI n] [] (ub w h (i : Int).toNat v)
      rw [w32_id (by unfold in32; omega), Int.toNat_natCast]
      apply Wp.s
      refine ih (i + 1) _ (by omega) ?_
      intro g g1 g2
      have h3 := k g (fun j h1 h2 => by
        by_cases q : j = i
        · subst q
          rw [g2 _ (by omega), ub_ap, if_pos rfl, if_pos rfl]
        · exact g1 j (by omega) h2) (fun j hj => by
          rw [g2 j (by omega), ub_ap, if_pos rfl, if_neg (by omega)])
      refine cw_ h3 ?_
      (funext c i; simp (decide := true) only [ub_ap, ubf_ap, up1_ap, ↓reduceIte]; (repeat' split) <;> first | rfl | omega | (simp_all; done) | (subst_vars; simp_all; done))
  apply Wp.s; apply Wp.s; apply Wp.s; apply Wp.s
  show (if kd h = 20 ∨ kd h = 21 ∨ kd h = 24 ∨ (kd h = 30 ∧ (3 : Nat) = 2) then Wp (Cw d) cd_JA_fillL (0, 3, n1) Q 4 [mR h, mL v, none, mI 0, none] [mI (alen w h)] w else False)
  rw [if_pos (Or.inr (Or.inl hk)), al]
  apply Wp.s
  exact lp n 0 w (by omega) (fun g g1 g2 => k g (fun i hi => g1 i (by omega) hi) (fun i hi => g2 i (Or.inr hi)))
