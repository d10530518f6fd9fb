/-! a plan anew: what stays -/
theorem Inv.g_plan {w w' : Wd} (h : Inv w) (hF : Fr ([0, 28, 29, 30, 31, 146, 149] ++ scrR) w w') (h0 : w' 0 12 = w 0 12) (h144 : ∀ i, i ∈ [41, 42, 62, 64, 66, 71, 72] → w' 144 i = w 144 i) (g_tape : RT (w' 0 1) (w' 144 2) (w' 1) (w' 145)) (g_fault : w' 0 2 = w' 144 15) (es : ∀ i, i < 333 ∨ 484 ≤ i → w' 146 i = w 146 i) (en : ∀ i, i < 14 → w' 149 i = w 149 i) (g_wp : WP (w' 146)) (g_rp : RP (w' 28) (w' 29) (w' 30) (w' 31) (w' 146)) : Inv w' := by
  have e0 : w' 146 0 = w 146 0 := es 0 (by omega)
  have e2 : w' 146 2 = w 146 2 := es 2 (by omega)
  have e484 : w' 146 484 = w 146 484 := es 484 (by omega)
  refine Inv.g_text h hF (fun i hi => ?_) h144 g_tape g_fault (WS.ex (fun i hi => es i (Or.inl hi)) h.ws) g_wp ?_ ?_ g_rp ?_ ?_
  · simp only [List.mem_cons, List.not_mem_nil, or_false] at hi
    rw [hi, h0]
  · refine (WB.mk (by rw [e484]; exact h.wb.notes) ?_ ?_ ?_ ?_ ?_)
    · intro i hi
      rw [e484] at hi
      rw [es (485 + 4 * i) (by omega), e2]; exact h.wb.unit i hi
    · intro i hi
      rw [e484] at hi
      rw [es (486 + 4 * i) (by omega), e0]; exact h.wb.from' i hi
    · intro i hi
      rw [e484] at hi
      rw [es (487 + 4 * i) (by omega), e0]; exact h.wb.to i hi
    · intro i hi
      rw [e484] at hi
      rw [es (488 + 4 * i) (by omega)]; exact h.wb.hour i hi
    · intro u
      rw [e484, cntN_ext u _ (fun i _ => es (485 + 4 * i) (by omega))]; exact h.wb.eight u
  · rw [hF 4 (by decide), hF 5 (by decide), hF 6 (by decide), hF 7 (by decide), hF 8 (by decide), hF 9 (by decide), hF 10 (by decide), hF 11 (by decide), hF 12 (by decide), hF 13 (by decide), hF 14 (by decide), hF 15 (by decide)]
    exact RV.ex (fun i hi => es i (Or.inl hi)) en h.ws h.rv
  · rw [hF 36 (by decide), hF 37 (by decide), hF 38 (by decide), hF 39 (by decide), hF 40 (by decide)]
    refine (RB.mk (by rw [e484]; exact h.rb.notes) ?_ ?_ ?_ ?_)
    · intro i hi
      rw [e484] at hi
      rw [es (485 + 4 * i) (by omega)]; exact h.rb.unit i hi
    · intro i hi
      rw [e484] at hi
      rw [es (486 + 4 * i) (by omega)]; exact h.rb.from' i hi
    · intro i hi
      rw [e484] at hi
      rw [es (487 + 4 * i) (by omega)]; exact h.rb.to i hi
    · intro i hi
      rw [e484] at hi
      rw [es (488 + 4 * i) (by omega)]; exact h.rb.hour i hi
  · intro q
    rw [h0] at q
    rw [hF 92 (by decide), hF 93 (by decide), hF 94 (by decide), hF 96 (by decide), hF 107 (by decide), hF 108 (by decide)]
    exact Told.ex (fun i hi => es i (Or.inl hi)) h.ws (h.told q)
/-- the acts of a plan as both sides hold them, m of them -/
def PlanW (s : Nat → Int) (m : Nat) (a b c : Nat → Int) : Prop := ∀ i, i < m → (0 ≤ a i ∧ a i ≤ 2) ∧ (a i = 2 → 0 ≤ b i ∧ b i ≤ 47) ∧ (a i ≠ 2 → 0 ≤ b i ∧ b i < s 2) ∧ (a i = 0 → 0 ≤ c i ∧ c i < s 0)
theorem PlanW.wp {s t : Nat → Int} {m : Nat} {a b c : Nat → Int} (h : PlanW s m a b c) (hm : m ≤ 50) (e333 : t 333 = m) (e0 : t 0 = s 0) (e2 : t 2 = s 2) (ea : ∀ i, i < m → t (334 + 3 * i) = a i ∧ t (335 + 3 * i) = b i ∧ t (336 + 3 * i) = c i) : WP t := by
  refine (WP.mk (by rw [e333]; omega) ?_ ?_ ?_ ?_)
  · intro i hi
    rw [e333] at hi
    rw [(ea i (by omega)).1]; exact (h i (by omega)).1
  · intro i hi
    rw [e333] at hi
    rw [(ea i (by omega)).1, (ea i (by omega)).2.1]; exact (h i (by omega)).2.1
  · intro i hi
    rw [e333] at hi
    rw [(ea i (by omega)).1, (ea i (by omega)).2.1, e2]; exact (h i (by omega)).2.2.1
  · intro i hi
    rw [e333] at hi
    rw [(ea i (by omega)).1, (ea i (by omega)).2.2, e0]; exact (h i (by omega)).2.2.2
theorem PlanW.rp {t : Nat → Int} {m : Nat} {a b c ob wt ut wm : Nat → Int} (e333 : t 333 = m) (ea : ∀ i, i < m → t (334 + 3 * i) = a i ∧ t (335 + 3 * i) = b i ∧ t (336 + 3 * i) = c i) (ob0 : ob 0 = m) (ew : ∀ i, i < m → wt i = a i ∧ ut i = b i ∧ wm i = c i) : RP ob wt ut wm t := by
  refine (RP.mk (by rw [ob0, e333]) ?_ ?_ ?_)
  · intro i hi
    rw [e333] at hi
    rw [(ea i (by omega)).1, (ew i (by omega)).1]
  · intro i hi
    rw [e333] at hi
    rw [(ea i (by omega)).2.1, (ew i (by omega)).2.1]
  · intro i hi
    rw [e333] at hi
    rw [(ea i (by omega)).2.2, (ew i (by omega)).2.2]
theorem S_keepPlan {d : Nat} {Q : MV → Wd → Prop} {w : Wd} (m : Nat) (hm : m ≤ 50) (h50 : w 144 50 = m)
    (k : ∀ g : Nat → Int, g 333 = m → (∀ i, i < 3 * m → g (334 + i) = w 148 i) → (∀ i, i < 333 ∨ 484 ≤ i → g i = w 146 i) → Q none (ubf w 146 g)) : Cw (d + 1) 233 [mR 144] w Q := by
  apply M_keepPlan_144_en
  intro n1
  have lp : ∀ (r i : Nat) (g : Nat → Int), i + r = 3 * m → g 333 = m → (∀ j, j < i → g (334 + j) = w 148 j) → (∀ j, j < 333 ∨ 484 ≤ j → g j = w 146 j) → Wp (Cw (d + 0)) cd_M_keepPlan (0, 0, n1) Q 8 [mR 144, mI i] [] (ubf w 146 g) := by
    intro r
    induction r with
    | zero =>
      intro i g hi g1 g2 g3
      have : i = 3 * m := by omega
      apply M_keepPlan_144_c8
      have e : (ubf w 146 g) 144 50 = m := h50
      rw [e, w32_id (x := 3 * (m : Int)) (by unfold in32; omega)]
      exact ⟨fun _ => k g g1 (fun j hj => g2 j (by omega)) g3, fun z => absurd (by omega) z⟩
    | succ r ih =>
      intro i g hi g1 g2 g3
      have e : (ubf w 146 g) 144 50 = m := h50
      have e8 : (ubf w 146 g) 148 i = w 148 i := rfl
      have x1 : w32 (334 + (i : Int)) = ((334 + i : Nat) : Int) := by rw [w32_id (by unfold in32; omega)]; omega
      apply M_keepPlan_144_c8
      rw [e, w32_id (x := 3 * (m : Int)) (by unfold in32; omega), x1, Int.toNat_natCast, Int.toNat_natCast, e8, ub_on, ixs (k := i) (by omega)]
      refine ⟨fun z => by exfalso; omega, fun _ => ⟨by omega, by omega, ?_⟩⟩
      refine ih (i + 1) _ (by omega) ?_ ?_ ?_
      · rw [up1_ap, if_neg (by omega)]; exact g1
      · intro j hj
        rw [up1_ap]
        by_cases q : j = i
        · rw [if_pos (by omega), q]
        · rw [if_neg (by omega)]; exact g2 j (by omega)
      · intro j hj
        rw [up1_ap, if_neg (by omega)]; exact g3 j hj
  refine Eq.mp ?_ (lp (3 * m) 0 (up1 (w 146) 333 m) (by omega) (by rw [up1_ap, if_pos rfl]) (fun j hj => absurd hj (Nat.not_lt_zero _)) (fun j hj => by rw [up1_ap, if_neg (by omega)]))
  rw [h50]
  rfl
/-! drawn by a seed -/
def sd (x : Int) : Int := w32 (w32 (x * 1103515245) + 12345)
def dr (y n : Int) : Int := Int.tmod (iushr y 8) n
def dS (x : Int) : Nat → Int
  | 0 => x
  | k + 1 => sd (sd (sd (dS x k)))
def aK (x : Int) (k : Nat) : Int := dr (sd (dS x k)) 4
def aA (x : Int) (k : Nat) : Int := if aK x k = 0 then 1 else if aK x k = 1 then 2 else 0
def aU (x U : Int) (k : Nat) : Int := if aK x k = 1 then 1 else dr (sd (sd (dS x k))) U
def aP (x P : Int) (k : Nat) : Int := if aK x k ≤ 1 then -1 else dr (sd (sd (sd (dS x k)))) P
theorem iushr_nn (y : Int) : 0 ≤ iushr y 8 := by
  have h := tb_iushr' y 8 31 (by omega)
  rw [tb_hi y _ (by omega)] at h
  have e : in32 (iushr y 8) := k3i_in _
  have m := BitVec.msb_eq_toInt (x := (Int32.ofInt (iushr y 8)).toBitVec)
  rw [BitVec.msb_eq_getLsbD_last] at m
  have h : (Int32.ofInt (iushr y 8)).toBitVec.getLsbD 31 = false := h
  rw [h] at m
  have m := of_decide_eq_false m.symm
  have e2 : (Int32.ofInt (iushr y 8)).toBitVec.toInt = iushr y 8 := k3i_rt e
  rw [e2] at m
  omega
theorem dr_bd (y : Int) {n : Int} (hn : 0 < n) : 0 ≤ dr y n ∧ dr y n < n := ⟨Int.tmod_nonneg _ (iushr_nn y), Int.tmod_lt_of_pos _ hn⟩
theorem PlanW_drawn {s : Nat → Int} {x : Int} {m : Nat} (h2 : 0 < s 2) (h0 : 0 < s 0) : PlanW s m (aA x) (aU x (s 2)) (aP x (s 0)) := by
  intro i hi
  have k4 := dr_bd (sd (dS x i)) (n := 4) (by omega)
  have u := dr_bd (sd (sd (dS x i))) h2
  have p := dr_bd (sd (sd (sd (dS x i)))) h0
  have k4 : 0 ≤ aK x i ∧ aK x i < 4 := k4
  unfold aA aU aP
  by_cases z0 : aK x i = 0
  · rw [if_pos z0, if_neg (show ¬ aK x i = 1 by omega)]
    exact ⟨by omega, fun z => by omega, fun _ => u, fun z => by omega⟩
  · rw [if_neg z0]
    by_cases z1 : aK x i = 1
    · rw [if_pos z1, if_pos z1]
      exact ⟨by omega, fun z => by omega, fun z => by omega, fun z => by omega⟩
    · rw [if_neg z1, if_neg z1, if_neg (show ¬ aK x i ≤ 1 by omega)]
      exact ⟨by omega, fun z => by omega, fun _ => u, fun _ => p⟩
/-- the class's drawing, after k acts -/
def DrX (w : Wd) (x U P : Int) (k : Nat) (W : Wd) : Prop := (Fr [28, 29, 30, 31] w W) ∧ (W 28 0 = k) ∧ (W 28 4 = dS x k) ∧ (∀ i, i < k → W 29 i = aA x i ∧ W 30 i = aU x U i ∧ W 31 i = aP x P i)
theorem DrX.mk {w : Wd} {x U P : Int} {k : Nat} {W : Wd} (fr_ : Fr [28, 29, 30, 31] w W) (n_ : W 28 0 = k) (sd_ : W 28 4 = dS x k) (act_ : ∀ i, i < k → W 29 i = aA x i ∧ W 30 i = aU x U i ∧ W 31 i = aP x P i) : DrX w x U P k W := And.intro fr_ (And.intro n_ (And.intro sd_ (act_)))
theorem DrX.fr {w : Wd} {x U P : Int} {k : Nat} {W : Wd} (h_ : DrX w x U P k W) : Fr [28, 29, 30, 31] w W := h_.1
theorem DrX.n {w : Wd} {x U P : Int} {k : Nat} {W : Wd} (h_ : DrX w x U P k W) : W 28 0 = k := h_.2.1
theorem DrX.sd {w : Wd} {x U P : Int} {k : Nat} {W : Wd} (h_ : DrX w x U P k W) : W 28 4 = dS x k := h_.2.2.1
theorem DrX.act {w : Wd} {x U P : Int} {k : Nat} {W : Wd} (h_ : DrX w x U P k W) : ∀ i, i < k → W 29 i = aA x i ∧ W 30 i = aU x U i ∧ W 31 i = aP x P i := h_.2.2.2
theorem DrX.step {w W : Wd} {x U P : Int} {k : Nat} (h : DrX w x U P k W) {a b c : Int} (ha : a = aA x k) (hb : b = aU x U k) (hc : c = aP x P k) (s1 s2 : Int) : DrX w x U P (k + 1) (ub (ub (ub (ub (ub (ub (ub W 28 4 s1) 28 4 s2) 28 4 (dS x (k + 1))) 29 k a) 30 k b) 31 k c) 28 0 ((k + 1 : Nat) : Int)) := by
  refine (DrX.mk ?_ ?_ ?_ (fun i hi => ?_))
  · refine Fr.ub (Fr.ub (Fr.ub (Fr.ub (Fr.ub (Fr.ub (Fr.ub h.fr ?_) ?_) ?_) ?_) ?_) ?_) ?_ <;> decide
  · rw [ub_ap, if_pos rfl, if_pos rfl]
  · show up1 (up1 (up1 (up1 (W 28) 4 s1) 4 s2) 4 (dS x (k + 1))) 0 ((k + 1 : Nat) : Int) 4 = _
    rw [up1_ap, if_neg (by decide), up1_ap, if_pos rfl]
  · show up1 (W 29) k a i = _ ∧ up1 (W 30) k b i = _ ∧ up1 (W 31) k c i = _
    rw [up1_ap, up1_ap, up1_ap]
    by_cases q : i = k
    · rw [if_pos q, if_pos q, if_pos q, q]; exact ⟨ha, hb, hc⟩
    · rw [if_neg q, if_neg q, if_neg q]; exact h.act i (by omega)
theorem L_draw {d : Nat} {n1 : Int} {Q : MV → Wd → Prop} {w : Wd} {x U P : Int} (m : Nat) (hm : m ≤ 50) (h8 : w 4 8 = U) (h0 : w 4 0 = P) (U0 : 0 < U) (P0 : 0 < P) (k : ∀ W, DrX w x U P m W → Q none W) :
    ∀ (r i : Nat) (W : Wd), i + r = m → DrX w x U P i W → Wp (Cw (d + 1)) cd_Plan_draw (0, 0, n1) Q 8 [mR 28, mI m, none, mR 4, mI i, none, none, none] [] W := by
  intro r
  induction r with
  | zero =>
    intro i W hi hD
    have : i = m := by omega
    subst this
    apply Plan_draw_28_4_c8
    exact ⟨fun _ => k W hD, fun z => absurd (Int.le_refl _) z⟩
  | succ r ih =>
    intro i W hi hD
    have e8 : W 4 8 = U := by rw [hD.fr 4 (by decide)]; exact h8
    have e0 : W 4 0 = P := by rw [hD.fr 4 (by decide)]; exact h0
    have k4 := dr_bd (sd (dS x i)) (n := 4) (by omega)
    have k4 : 0 ≤ aK x i ∧ aK x i < 4 := k4
    have nb : ¬ (m : Int) ≤ (i : Int) := by omega
    have n50 : ¬ 50 ≤ (i : Int) := by omega
    have rg : 0 ≤ (i : Int) ∧ (i : Int) < 50 := by omega
    apply Plan_draw_28_4_c8
    rw [e8, e0, hD.n, hD.sd, Int.toNat_natCast, ixs (k := i) (by omega)]
    refine ⟨fun z => absurd z nb, fun _ => ⟨fun z => absurd U0 (by omega), fun _ => ⟨by omega, fun z => absurd P0 (by omega), fun _ => ⟨by omega, fun z0 => ⟨fun z1 => ⟨fun z => absurd z n50, fun _ => ⟨rg, rg, rg, ?_⟩⟩, fun z1 => ⟨fun z => absurd z n50, fun _ => ⟨rg, rg, rg, ?_⟩⟩⟩, fun z0 => ⟨fun z => absurd z n50, fun _ => ⟨rg, rg, rg, ?_⟩⟩⟩⟩⟩⟩
    · have z0 : ¬ aK x i = 0 := z0
      have z1 : ¬ aK x i = 1 := z1
      refine ih (i + 1) _ (by omega) (hD.step ?_ ?_ ?_ _ _)
      · unfold aA; rw [if_neg z0, if_neg z1]
      · unfold aU; rw [if_neg z1]; rfl
      · unfold aP; rw [if_neg (by omega)]; rfl
    · have z1 : aK x i = 1 := Classical.not_not.mp z1
      refine ih (i + 1) _ (by omega) (hD.step ?_ ?_ ?_ _ _)
      · unfold aA; rw [if_neg (by omega), if_pos z1]
      · unfold aU; rw [if_pos z1]
      · unfold aP; rw [if_pos (by omega)]
    · have z0 : aK x i = 0 := Classical.not_not.mp z0
      refine ih (i + 1) _ (by omega) (hD.step ?_ ?_ ?_ _ _)
      · unfold aA; rw [if_pos z0]
      · unfold aU; rw [if_neg (by omega)]; rfl
      · unfold aP; rw [if_pos (by omega)]
/-- the reference's drawing, after k acts -/
def DrM (w : Wd) (x U P : Int) (k : Nat) (W : Wd) : Prop := (Fr [144, 148] w W) ∧ (∀ i, i ≠ 50 → i ≠ 51 → W 144 i = w 144 i) ∧ (W 144 50 = k) ∧ (W 144 51 = dS x k) ∧ (∀ i, i < k → W 148 (3 * i) = aA x i ∧ W 148 (3 * i + 1) = aU x U i ∧ W 148 (3 * i + 2) = aP x P i)
theorem DrM.mk {w : Wd} {x U P : Int} {k : Nat} {W : Wd} (fr_ : Fr [144, 148] w W) (oth_ : ∀ i, i ≠ 50 → i ≠ 51 → W 144 i = w 144 i) (n_ : W 144 50 = k) (sd_ : W 144 51 = dS x k) (act_ : ∀ i, i < k → W 148 (3 * i) = aA x i ∧ W 148 (3 * i + 1) = aU x U i ∧ W 148 (3 * i + 2) = aP x P i) : DrM w x U P k W := And.intro fr_ (And.intro oth_ (And.intro n_ (And.intro sd_ (act_))))
theorem DrM.fr {w : Wd} {x U P : Int} {k : Nat} {W : Wd} (h_ : DrM w x U P k W) : Fr [144, 148] w W := h_.1
theorem DrM.oth {w : Wd} {x U P : Int} {k : Nat} {W : Wd} (h_ : DrM w x U P k W) : ∀ i, i ≠ 50 → i ≠ 51 → W 144 i = w 144 i := h_.2.1
theorem DrM.n {w : Wd} {x U P : Int} {k : Nat} {W : Wd} (h_ : DrM w x U P k W) : W 144 50 = k := h_.2.2.1
theorem DrM.sd {w : Wd} {x U P : Int} {k : Nat} {W : Wd} (h_ : DrM w x U P k W) : W 144 51 = dS x k := h_.2.2.2.1
theorem DrM.act {w : Wd} {x U P : Int} {k : Nat} {W : Wd} (h_ : DrM w x U P k W) : ∀ i, i < k → W 148 (3 * i) = aA x i ∧ W 148 (3 * i + 1) = aU x U i ∧ W 148 (3 * i + 2) = aP x P i := h_.2.2.2.2
theorem DrM.step {w W : Wd} {x U P : Int} {k : Nat} (h : DrM w x U P k W) {a b c : Int} (ha : a = aA x k) (hb : b = aU x U k) (hc : c = aP x P k) (s1 s2 : Int) : DrM w x U P (k + 1) (ub (ub (ub (ub (ub (ub (ub W 144 51 s1) 144 51 s2) 144 51 (dS x (k + 1))) 148 (3 * k) a) 148 (3 * k + 1) b) 148 (3 * k + 2) c) 144 50 ((k + 1 : Nat) : Int)) := by
  refine (DrM.mk ?_ (fun i i1 i2 => ?_) ?_ ?_ (fun i hi => ?_))
  · refine Fr.ub (Fr.ub (Fr.ub (Fr.ub (Fr.ub (Fr.ub (Fr.ub h.fr ?_) ?_) ?_) ?_) ?_) ?_) ?_ <;> decide
  · show up1 (up1 (up1 (up1 (W 144) 51 s1) 51 s2) 51 (dS x (k + 1))) 50 ((k + 1 : Nat) : Int) i = _
    rw [up1_ap, if_neg i1, up1_ap, if_neg i2, up1_ap, if_neg i2, up1_ap, if_neg i2]; exact h.oth i i1 i2
  · rw [ub_ap, if_pos rfl, if_pos rfl]
  · show up1 (up1 (up1 (up1 (W 144) 51 s1) 51 s2) 51 (dS x (k + 1))) 50 ((k + 1 : Nat) : Int) 51 = _
    rw [up1_ap, if_neg (by decide), up1_ap, if_pos rfl]
  · show up1 (up1 (up1 (W 148) (3 * k) a) (3 * k + 1) b) (3 * k + 2) c (3 * i) = _ ∧ up1 (up1 (up1 (W 148) (3 * k) a) (3 * k + 1) b) (3 * k + 2) c (3 * i + 1) = _ ∧ up1 (up1 (up1 (W 148) (3 * k) a) (3 * k + 1) b) (3 * k + 2) c (3 * i + 2) = _
    simp only [up1_ap]
    by_cases q : i = k
    · rw [q, if_neg (by omega), if_neg (by omega), if_pos rfl, if_neg (by omega), if_pos rfl, if_pos rfl]; exact ⟨ha, hb, hc⟩
    · rw [if_neg (by omega), if_neg (by omega), if_neg (by omega), if_neg (by omega), if_neg (by omega), if_neg (by omega), if_neg (by omega), if_neg (by omega), if_neg (by omega)]; exact h.act i (by omega)
theorem L_drawn {d : Nat} {n1 : Int} {Q : MV → Wd → Prop} {w : Wd} {x U P : Int} (m : Nat) (hm : m ≤ 50) (h8 : w 146 2 = U) (h0 : w 146 0 = P) (U0 : 0 < U) (P0 : 0 < P) (k : ∀ W, DrM w x U P m W → Cw (d + 1) 233 [mR 144] W (fun _ v2 => Q (mI m) v2)) :
    ∀ (r i : Nat) (W : Wd), i + r = m → DrM w x U P i W → Wp (Cw (d + 1)) cd_M_drawn (1, 0, n1) Q 21 [mR 144, mI m, none, none, none, none] [] W := by
  intro r
  induction r with
  | zero =>
    intro i W hi hD
    have : i = m := by omega
    subst this
    apply M_drawn_144_c21
    rw [hD.n]
    exact ⟨fun _ => k W hD, fun z => absurd (Int.le_refl _) z⟩
  | succ r ih =>
    intro i W hi hD
    have e8 : W 146 2 = U := by rw [hD.fr 146 (by decide)]; exact h8
    have e0 : W 146 0 = P := by rw [hD.fr 146 (by decide)]; exact h0
    have k4 := dr_bd (sd (dS x i)) (n := 4) (by omega)
    have k4 : 0 ≤ aK x i ∧ aK x i < 4 := k4
    have nb : ¬ (m : Int) ≤ (i : Int) := by omega
    have x0 : w32 (3 * (i : Int)) = ((3 * i : Nat) : Int) := by rw [w32_id (by unfold in32; omega)]; omega
    have x1 : w32 (((3 * i : Nat) : Int) + 1) = ((3 * i + 1 : Nat) : Int) := by rw [w32_id (by unfold in32; omega)]; omega
    have x2 : w32 (((3 * i : Nat) : Int) + 2) = ((3 * i + 2 : Nat) : Int) := by rw [w32_id (by unfold in32; omega)]; omega
    have r0 : 0 ≤ ((3 * i : Nat) : Int) ∧ ((3 * i : Nat) : Int) < 150 := by omega
    have r1 : 0 ≤ ((3 * i + 1 : Nat) : Int) ∧ ((3 * i + 1 : Nat) : Int) < 150 := by omega
    have r2 : 0 ≤ ((3 * i + 2 : Nat) : Int) ∧ ((3 * i + 2 : Nat) : Int) < 150 := by omega
    apply M_drawn_144_c21
    rw [e8, e0, hD.n, hD.sd, x0, x1, x2, Int.toNat_natCast, Int.toNat_natCast, Int.toNat_natCast, ixs (k := i) (by omega)]
    refine ⟨fun z => absurd z nb, fun _ => ⟨by omega, by omega, fun z0 => ⟨fun z1 => ⟨r0, fun _ => ⟨r1, fun y => ?_, fun _ => ⟨r2, ?_⟩⟩, fun z => absurd z1 z⟩, fun z1 => ⟨r0, fun z => absurd z z1, fun _ => ⟨r1, fun y => ⟨r2, ?_⟩, fun y => ?_⟩⟩⟩, fun z0 => ⟨r0, fun z1 => ⟨r1, fun y => ⟨r2, ?_⟩, fun y => ?_⟩, fun z1 => ?_⟩⟩⟩
    · exfalso
      have z0 : ¬ aK x i = 0 := z0
      have z1 : ¬ aK x i = 1 := z1
      have y : aK x i ≤ 1 := y
      omega
    · have z0 : ¬ aK x i = 0 := z0
      have z1 : ¬ aK x i = 1 := z1
      refine ih (i + 1) _ (by omega) (hD.step ?_ ?_ ?_ _ _)
      · unfold aA; rw [if_neg z0, if_neg z1]
      · unfold aU; rw [if_neg z1]; rfl
      · unfold aP; rw [if_neg (by omega)]; rfl
    · have z1 : aK x i = 1 := Classical.not_not.mp z1
      refine ih (i + 1) _ (by omega) (hD.step ?_ ?_ ?_ _ _)
      · unfold aA; rw [if_neg (by omega), if_pos z1]
      · unfold aU; rw [if_pos z1]
      · unfold aP; rw [if_pos (by omega)]
    · exfalso
      have z1 : aK x i = 1 := Classical.not_not.mp z1
      have y : ¬ aK x i ≤ 1 := y
      omega
    · have z0 : aK x i = 0 := Classical.not_not.mp z0
      refine ih (i + 1) _ (by omega) (hD.step ?_ ?_ ?_ _ _)
      · unfold aA; rw [if_pos z0]
      · unfold aU; rw [if_neg (by omega)]; rfl
      · unfold aP; rw [if_pos (by omega)]
    · exfalso
      have z0 : aK x i = 0 := Classical.not_not.mp z0
      have y : ¬ aK x i ≤ 1 := y
      omega
    · exfalso
      have z0 : aK x i = 0 := Classical.not_not.mp z0
      have z1 : aK x i = 1 := Classical.not_not.mp z1
      omega
theorem P_drawn {d : Nat} {w : Wd} (h : Inv w) (x y : Int) : Pair (d + 30) 102 234 [mI x, mI y] w := by
  unfold Pair
  have un := h.ws.un
  have pe := h.ws.pe
  have eU : w 4 8 = w 146 2 := h.rv.units
  have eP : w 4 0 = w 146 0 := h.rv.people
  have k0 : Inv (ub w 144 0 0) := (Inv.mk h.tape h.fault h.ws h.wp h.wb h.rv h.rp h.rb h.im0 h.im1 h.stale h.told h.wat h.hands h.hand h.askers h.asked h.gainers h.gained h.mid h.star h.done h.day h.shown h.words h.reserved)
  have out : (x < 1 ∨ 50 < x ∨ w 146 2 = 0) → Mid (d + 30) 234 [mI x, mI y] w (mI (-1)) w := by
    intro hx
    (apply Mid.k)
    apply M_drawn_144_en
    intro n1
    refine ⟨fun _ => Post.k rfl k0 rfl rfl, fun _ => ⟨fun _ => Post.k rfl k0 rfl rfl, fun _ => ⟨fun z => ?_, fun _ => Post.k rfl k0 rfl rfl⟩⟩⟩
    exfalso; omega
  apply X_drawn_0_en
  rw [eU]
  refine ⟨fun z => out (by omega), fun z1 => ⟨fun z => out (by omega), fun z2 => ⟨fun z3 => ?_, fun z => out (by omega)⟩⟩⟩
  obtain ⟨m, hm⟩ := Int.eq_ofNat_of_zero_le (show 0 ≤ x by omega)
  subst hm
  have u0 : (0 : Int) < w 146 2 := by omega
  have mk := h.ws.mak 0 (by omega)
  have p0 : (0 : Int) < w 146 0 := by omega
  apply Plan_draw_28_4_en
  intro n1
  refine L_draw (d := d + 27) (w := w) (x := y) m (by omega) eU eP u0 p0 ?_ m 0 _ (by omega) ⟨Fr.ub (Fr.ub (Fr.rfl' _ _) (by decide)) (by decide), ?_, ?_, fun i hi => absurd hi (Nat.not_lt_zero _)⟩
  · intro W hD
    (apply Mid.k)
    have e146 : W 146 = w 146 := hD.fr 146 (by decide)
    have e144 : W 144 = w 144 := hD.fr 144 (by decide)
    apply M_drawn_144_en
    intro n2
    rw [e146]
    refine ⟨fun z => by exfalso; omega, fun _ => ⟨fun z => by exfalso; omega, fun _ => ⟨fun _ => ?_, fun z => absurd z3 z⟩⟩⟩
    refine L_drawn (d := d + 28) (w := ub (ub (ub W 144 0 0) 144 51 y) 144 50 0) (x := y) (U := w 146 2) (P := w 146 0) m (by omega) (by show W 146 2 = _; rw [e146]) (by show W 146 0 = _; rw [e146]) u0 p0 ?_ m 0 _ (by omega) ⟨Fr.rfl' _ _, fun _ _ _ => rfl, ?_, ?_, fun i hi => absurd hi (Nat.not_lt_zero _)⟩
    · intro W2 hD2
      refine S_keepPlan (d := d + 28) (w := W2) m (by omega) hD2.n ?_
      intro g g1 g2 g3
      have e2 : W2 146 = w 146 := by rw [hD2.fr 146 (by decide)]; exact e146
      rw [e2] at g3
      have ea : ∀ i, i < m → g (334 + 3 * i) = aA y i ∧ g (335 + 3 * i) = aU y (w 146 2) i ∧ g (336 + 3 * i) = aP y (w 146 0) i := fun i hi => by
        obtain ⟨a, b, c⟩ := hD2.act i hi
        have b1 := g2 (3 * i) (by omega)
        have b2 := g2 (3 * i + 1) (by omega)
        have b3 := g2 (3 * i + 2) (by omega)
        rw [show 334 + (3 * i + 1) = 335 + 3 * i by omega] at b2
        rw [show 334 + (3 * i + 2) = 336 + 3 * i by omega] at b3
        rw [b1, b2, b3]
        exact ⟨a, b, c⟩
      have frW : ∀ c, c ∉ [28, 29, 30, 31, 144, 148] → W2 c = w c := fun c hc => by
        simp only [List.mem_cons, List.not_mem_nil, or_false, not_or] at hc
        rw [hD2.fr c (by simp only [List.mem_cons, List.not_mem_nil, or_false, not_or]; omega), ub_ne _ _ (by omega), ub_ne _ _ (by omega), ub_ne _ _ (by omega)]
        exact hD.fr c (by simp only [List.mem_cons, List.not_mem_nil, or_false, not_or]; omega)
      have frI : Fr ([0, 28, 29, 30, 31, 146, 149] ++ scrR) w (ubf W2 146 g) := by
        refine Fr.ubf (Fr.tr (Fr.ub (Fr.ub (Fr.ub (Fr.tr (Fr.rfl' _ _) hD.fr (by decide)) (by decide)) (by decide)) (by decide)) hD2.fr (by decide)) (by decide)
      have x144 : ∀ i, i ≠ 0 → i ≠ 50 → i ≠ 51 → W2 144 i = w 144 i := fun i i0 i1 i2 => by
        rw [hD2.oth i i1 i2]
        show up1 (up1 (up1 (W 144) 0 0) 51 y) 50 0 i = _
        rw [up1_ap, if_neg i1, up1_ap, if_neg i2, up1_ap, if_neg i0, e144]
      refine Post.k rfl (Inv.g_plan h frI ?_ (fun i hi => ?_) ?_ ?_ g3 ?_ ?_ ?_) ?_ ?_
      · show W2 0 12 = _; rw [frW 0 (by decide)]
      · simp only [List.mem_cons, List.not_mem_nil, or_false] at hi
        show W2 144 i = _
        exact x144 i (by omega) (by omega) (by omega)
      · show RT (W2 0 1) (W2 144 2) (W2 1) (W2 145)
        rw [frW 0 (by decide), frW 1 (by decide), frW 145 (by decide), x144 2 (by decide) (by decide) (by decide)]
        exact h.tape
      · show W2 0 2 = W2 144 15
        rw [frW 0 (by decide), x144 15 (by decide) (by decide) (by decide)]
        exact h.fault
      · intro i hi
        show W2 149 i = _
        rw [frW 149 (by decide)]
      · exact PlanW.wp (s := w 146) (PlanW_drawn (x := y) u0 p0) (by omega) g1 (g3 0 (by omega)) (g3 2 (by omega)) ea
      · show RP (W2 28) (W2 29) (W2 30) (W2 31) g
        have f28 : ∀ c, c ∉ [144, 148] → W2 c = W c := fun c hc => by
          simp only [List.mem_cons, List.not_mem_nil, or_false, not_or] at hc
          rw [hD2.fr c (by simp only [List.mem_cons, List.not_mem_nil, or_false, not_or]; omega), ub_ne _ _ (by omega), ub_ne _ _ (by omega), ub_ne _ _ (by omega)]
        rw [f28 28 (by decide), f28 29 (by decide), f28 30 (by decide), f28 31 (by decide)]
        exact PlanW.rp g1 ea hD.n hD.act
      · show W2 401 = _; exact frW 401 (by decide)
      · show W2 400 = _; exact frW 400 (by decide)
    · rw [ub_ap, if_pos rfl, if_pos rfl]; rfl
    · rw [ub_ap, if_pos rfl, if_neg (by decide), ub_ap, if_pos rfl, if_pos rfl]; rfl
  · rw [ub_ap, if_pos rfl, if_neg (by decide), ub_ap, if_pos rfl, if_pos rfl]; rfl
  · rw [ub_ap, if_pos rfl, if_pos rfl]; rfl
