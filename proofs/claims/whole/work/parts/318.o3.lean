theorem fiK_le (g : Nat → Int) : ∀ i, fiK g i ≤ i
  | 0 => Nat.le_refl _
  | i + 1 => by
    have := fiK_le g i
    show fiK g i + (if 0 ≤ g i then 1 else 0) ≤ i + 1
    split <;> omega
theorem fiQ_spec {s : Nat → Int} {K : Nat} {r : Nat → Nat} (rg : RgP s K r) (g : Nat → Int) : ∀ i, i ≤ K → (∀ j, j < fiK g i → ∃ e, e < i ∧ fiQ r g i j = r e) ∧ (∀ j j', j < j' → j' < fiK g i → fiQ r g i j ≠ fiQ r g i j')
  | 0, _ => ⟨fun j hj => absurd hj (Nat.not_lt_zero _), fun j j' _ hj => absurd hj (Nat.not_lt_zero _)⟩
  | i + 1, hi => by
    obtain ⟨h1, h2⟩ := fiQ_spec rg g i (by omega)
    have ek : fiK g (i + 1) = fiK g i + (if 0 ≤ g i then 1 else 0) := rfl
    have eq : fiQ r g (i + 1) = if 0 ≤ g i then upN (fiQ r g i) (fiK g i) (r i) else fiQ r g i := rfl
    by_cases z : 0 ≤ g i
    · rw [if_pos z] at ek eq
      rw [ek, eq]
      refine ⟨fun j hj => ?_, fun j j' hjj hj => ?_⟩
      · rw [upN_ap]
        by_cases q : j = fiK g i
        · rw [if_pos q]; exact ⟨i, by omega, rfl⟩
        · rw [if_neg q]
          obtain ⟨e, a, b⟩ := h1 j (by omega)
          exact ⟨e, by omega, b⟩
      · rw [upN_ap, upN_ap, if_neg (show j ≠ fiK g i by omega)]
        by_cases q : j' = fiK g i
        · rw [if_pos q]
          obtain ⟨e, a, b⟩ := h1 j (by omega)
          rw [b]; exact rg.un e i a (by omega)
        · rw [if_neg q]; exact h2 j j' hjj (by omega)
    · rw [if_neg z] at ek eq
      rw [ek, eq, Nat.add_zero]
      refine ⟨fun j hj => ?_, h2⟩
      obtain ⟨e, a, b⟩ := h1 j hj
      exact ⟨e, by omega, b⟩
theorem fiQ_rg {s : Nat → Int} {K : Nat} {r : Nat → Nat} (rg : RgP s K r) (g : Nat → Int) : RgP s (fiK g K) (fiQ r g K) := by
  obtain ⟨h1, h2⟩ := fiQ_spec rg g K (Nat.le_refl _)
  have K8 := rg.K8
  have := fiK_le g K
  refine ⟨by omega, fun i hi => ?_, h2⟩
  obtain ⟨e, a, b⟩ := h1 i hi
  rw [b]; exact rg.lt e a
theorem fiQ_eq {r : Nat → Nat} {f g : Nat → Int} : ∀ {K : Nat}, EqK K f g → fiK f K = fiK g K ∧ fiQ r f K = fiQ r g K
  | 0, _ => ⟨rfl, rfl⟩
  | i + 1, h => by
    obtain ⟨h1, h2⟩ := fiQ_eq (r := r) (f := f) (g := g) (K := i) (fun j hj => h j (by omega))
    refine ⟨?_, ?_⟩
    · show fiK f i + (if 0 ≤ f i then 1 else 0) = fiK g i + (if 0 ≤ g i then 1 else 0)
      rw [h1, h i (by omega)]
    · show (if 0 ≤ f i then upN (fiQ r f i) (fiK f i) (r i) else fiQ r f i) = (if 0 ≤ g i then upN (fiQ r g i) (fiK g i) (r i) else fiQ r g i)
      rw [h1, h2, h i (by omega)]
theorem loF_zero {s : Nat → Int} {K : Nat} {r : Nat → Nat} (rg : RgP s K r) (g : Nat → Int) : loF r g K = 0 ↔ fiK g K = K := by
  have hb := loF_bit (r := r) (K := K) (fun i hi => (rg.lt i hi).1) g K (Nat.le_refl _)
  have key : ∀ i, i ≤ K → (fiK g i = i ↔ ∀ j, j < i → 0 ≤ g j) := by
    intro i
    induction i with
    | zero => intro _; exact ⟨fun _ j hj => absurd hj (Nat.not_lt_zero _), fun _ => rfl⟩
    | succ i ih =>
      intro hi
      have ih := ih (by omega)
      have le := fiK_le g i
      have ek : fiK g (i + 1) = fiK g i + (if 0 ≤ g i then 1 else 0) := rfl
      rw [ek]
      by_cases z : 0 ≤ g i
      · rw [if_pos z]
        constructor
        · intro h j hj
          by_cases q : j = i
          · rw [q]; exact z
          · exact ih.mp (by omega) j (by omega)
        · intro h
          have := ih.mpr (fun j hj => h j (by omega))
          omega
      · rw [if_neg z]
        exact ⟨fun h => by omega, fun h => absurd (h i (by omega)) z⟩
  rw [key K (Nat.le_refl _)]
  constructor
  · intro h j hj
    by_cases z : 0 ≤ g j
    · exact z
    · have r8 := (rg.lt j hj).1
      have := (hb (r j) (by omega)).mpr ⟨j, hj, rfl, by omega⟩
      rw [h, tb_zero] at this
      cases this
  · intro h
    refine tb_ext (loF_in _ _ _) (by unfold in32; omega) (fun p hp => ?_)
    rw [tb_zero]
    cases q : tb (loF r g K) p
    · rfl
    · obtain ⟨j, a, _, f⟩ := (hb p hp).mp q
      have := h j a
      omega
theorem S_leave {d : Nat} {Q : MV → Wd → Prop} {w : Wd} {s : Nat → Int} {K : Nat} {r : Nat → Nat} (rg : RgP s K r) (c : ClR w K r) (g : Nat → Int)
    (k : ∀ w', Fr [137, 138] w w' → ClR w' (fiK g K) (fiQ r g K) → Q none w') : Cw (d + 2) 143 [mR 137, mI (loF r g K)] w Q := by
  have K8 := rg.K8
  have hb := loF_bit (r := r) (K := K) (fun i hi => (rg.lt i hi).1) g K (Nat.le_refl _)
  apply Ring_leave_137_en
  intro n1
  have lp : ∀ (m i : Nat) (f : Nat → Int), i + m = K → (∀ j, j < fiK g i → f j = fiQ r g i j) → (∀ j, i ≤ j → j < K → f j = r j) → Wp (Cw (d + 1)) cd_Ring_leave (0, 0, n1) Q 4 [mR 137, mI (loF r g K), mI (fiK g i : Nat), mI i] [] (ubf w 138 f) := by
    intro m
    induction m with
    | zero =>
      intro i f hi h1 h2
      have : i = K := by omega
      subst this
      have c1 : (ubf w 138 f) 137 2 = i := c.1
      apply Ring_leave_137_c4
      rw [c1]
      refine ⟨fun _ => k _ (Fr.ub (Fr.ubf (Fr.rfl' _ _) (by decide)) (by decide)) ⟨?_, fun j hj => ?_⟩, fun z => absurd (Int.le_refl _) z⟩
      · rw [ub_ap, if_pos rfl, if_pos rfl]
      · show f j = _
        exact h1 j hj
    | succ m ih =>
      intro i f hi h1 h2
      have c1 : (ubf w 138 f) 137 2 = K := c.1
      have a1 : (ubf w 138 f) 138 i = r i := by rw [ubf_ap, if_pos rfl]; exact h2 i (Nat.le_refl _) (by omega)
      have r8 := (rg.lt i (by omega)).1
      have le := fiK_le g i
      have ek : fiK g (i + 1) = fiK g i + (if 0 ≤ g i then 1 else 0) := rfl
      have eq : fiQ r g (i + 1) = if 0 ≤ g i then upN (fiQ r g i) (fiK g i) (r i) else fiQ r g i := rfl
      have bit : tb (loF r g K) (r i) = true ↔ g i < 0 := by
        rw [hb (r i) (by omega)]
        constructor
        · rintro ⟨j, a, b, e⟩
          have : j = i := by
            by_cases q : j = i
            · exact q
            · exfalso
              by_cases q2 : j < i
              · exact rg.un j i q2 (by omega) b
              · exact rg.un i j (by omega) a b.symm
          rw [← this]; exact e
        · intro h; exact ⟨i, by omega, rfl, h⟩
      apply Ring_leave_137_c4
      rw [c1, Int.toNat_natCast, a1, hasbit _ (by omega), Int.toNat_natCast, ixs (k := i) (by omega), ixs (k := fiK g i) (by omega), ub_on]
      refine ⟨fun z => by exfalso; omega, fun _ => ⟨by omega, fun z => ⟨by omega, by omega, ?_⟩, fun z => ?_⟩⟩
      · have nb : ¬ tb (loF r g K) (r i) = true := fun q => by rw [if_pos q] at z; exact absurd z (by decide)
        have z0 : 0 ≤ g i := by
          by_cases y : 0 ≤ g i
          · exact y
          · exact absurd (bit.mpr (by omega)) nb
        rw [if_pos z0] at ek eq
        have i1 := ih (i + 1) (up1 f (fiK g i) (r i)) (by omega) (fun j hj => ?_) (fun j h1' h2' => ?_)
        · rw [ek] at i1; exact i1
        · rw [ek] at hj
          rw [eq, up1_ap, upN_ap]
          by_cases q : j = fiK g i
          · rw [if_pos q, if_pos q]
          · rw [if_neg q, if_neg q]; exact h1 j (by omega)
        · rw [up1_ap, if_neg (by omega)]; exact h2 j (by omega) h2'
      · have nb : tb (loF r g K) (r i) = true := by
          cases q : tb (loF r g K) (r i)
          · rw [q] at z; exact absurd rfl z
          · rfl
        have z0 : ¬ 0 ≤ g i := by have := bit.mp nb; omega
        rw [if_neg z0] at ek eq
        have i1 := ih (i + 1) f (by omega) (fun j hj => ?_) (fun j h1' h2' => h2 j (by omega) h2')
        · rw [ek, Nat.add_zero] at i1; exact i1
        · rw [ek, Nat.add_zero] at hj
          rw [eq]; exact h1 j hj
  have L := lp K 0 (w 138) (by omega) (fun j hj => absurd hj (Nat.not_lt_zero _)) (fun j _ hj => c.2 j hj)
  rw [ubf_sf0] at L
  exact L
noncomputable def laF (s : Nat → Int) : Nat → Nat → (Nat → Nat) → Int
  | 0, _, _ => -1
  | m + 1, K, r => if K < 2 then -1 else @ite _ (cloP s K r) (Classical.propDecidable _) (if fiK (gaF s K r K) K = K then meF r K else laF s m (fiK (gaF s K r K) K) (fiQ r (gaF s K r K) K)) (-1)
theorem L_lasts {d : Nat} {n1 : Int} {Q : MV → Wd → Prop} {w : Wd} {s nms : Nat → Int} (rv : RV (w 4) (w 5) (w 6) (w 7) (w 8) (w 9) (w 10) (w 11) (w 12) (w 13) (w 14) (w 15) s nms) (ws : WS s) :
    ∀ (m K : Nat) (r : Nat → Nat) (w1 : Wd), m ≤ 9 → K ≤ m → Fr [137, 138, 139] w w1 → RgP s K r → ClR w1 K r → (∀ w2, Fr [137, 138, 139] w w2 → Q (mI (laF s m K r)) w2) → Wp (Cw (d + 7)) cd_X_lasts (1, 0, n1) Q 12 [mR 0, mI (9 - m : Nat), none] [] w1 := by
  intro m
  induction m with
  | zero =>
    intro K r w1 hm hK hF rg c k
    apply X_lasts_0_c12
    exact ⟨fun _ => k w1 hF, fun z => absurd (show (8 : Int) < ((9 - 0 : Nat) : Int) by omega) z⟩
  | succ m ih =>
    intro K r w1 hm hK hF rg c k
    have rv1 := RV_fr hF (by decide) rv
    have eL : laF s (m + 1) K r = if K < 2 then -1 else @ite _ (cloP s K r) (Classical.propDecidable _) (if fiK (gaF s K r K) K = K then meF r K else laF s m (fiK (gaF s K r K) K) (fiQ r (gaF s K r K) K)) (-1) := rfl
    apply X_lasts_0_c12
    rw [c.1]
    refine ⟨fun z => by exfalso; omega, fun _ => ⟨fun z => ?_, fun z => ?_⟩⟩
    · rw [if_pos (by omega)] at eL
      have k1 := k w1 hF
      rw [eL] at k1; exact k1
    · have K2 : ¬ K < 2 := by omega
      rw [if_neg K2] at eL
      refine S_closes (d := d + 3) rv1 ws rg (by omega) c (fun cl => ?_) (fun cl => ?_)
      · rw [if_pos cl] at eL
        refine ⟨_, rfl, fun _ => ?_, fun q => absurd (show ¬ (1 : Int) = 0 by decide) q⟩
        refine S_reckon (d := d + 1) rv1 ws rg (by omega) c cl ?_
        intro f hf
        have c2 : ClR (ubf w1 139 f) K r := c
        refine S_losers (d := d + 6) (w := ubf w1 139 f) rg.K8 c2 ?_
        rw [ubf_self, loF_eq hf]
        obtain ⟨e1, e2⟩ := fiQ_eq (r := r) hf
        have hz := loF_zero rg (gaF s K r K)
        have F2 : Fr [137, 138, 139] w (ubf w1 139 f) := Fr.ubf hF (by decide)
        refine ⟨_, rfl, fun z2 => ?_, fun z2 => ?_⟩
        · have nk : ¬ fiK (gaF s K r K) K = K := fun q => z2 (hz.mpr q)
          rw [if_neg nk] at eL
          refine S_leave (d := d + 5) (w := ubf w1 139 f) rg c2 (gaF s K r K) ?_
          intro w2 hF2 c3
          have le := fiK_le (gaF s K r K) K
          have i1 := ih (fiK (gaF s K r K) K) (fiQ r (gaF s K r K) K) w2 (by omega) (by omega) (Fr.tr F2 hF2 (by decide)) (fiQ_rg rg _) c3 (fun w3 hF3 => by rw [← eL]; exact k w3 hF3)
          rw [ixs (k := 9 - (m + 1)) (by omega), show 9 - (m + 1) + 1 = 9 - m by omega]
          exact i1
        · rw [if_pos (hz.mp (Classical.not_not.mp z2))] at eL
          refine S_members (d := d + 6) (w := ubf w1 139 f) rg.K8 c2 ?_
          have k1 := k _ F2
          rw [eL] at k1
          exact ⟨_, rfl, k1⟩
      · rw [if_neg cl] at eL
        have k1 := k w1 hF
        rw [eL] at k1
        exact ⟨_, rfl, fun q => absurd rfl q, fun _ => k1⟩
