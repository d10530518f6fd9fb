theorem ubf_sf (w : Wd) (c : Nat) : ubf w c (w c) = w := by funext a i; rw [ubf_ap]; split <;> simp_all
theorem L_image12 {d : Nat} {n1 : Int} {Q : MV → Wd → Prop} (k : Nat) (hk : k ≤ 1) : ∀ (r i : Nat) (w : Wd), i + r = 645 →
    (∀ g : Nat → Int, (∀ j : Nat, i ≤ j → j < 645 → g (645 * k + j) = w 146 j) → (∀ j : Nat, j < 645 * k + i ∨ 645 * k + 645 ≤ j → g j = w 182 j) → Wp (Cw (d + 1)) cd_M_image (2, 0, n1) Q 31 [mR 144, mI k, mI 0] [] (ubf w 182 g)) →
    Wp (Cw (d + 1)) cd_M_image (2, 0, n1) Q 12 [mR 144, mI k, mI i] [] w
  | 0, i, w, hi, h => by
    apply M_image_144_c12
    (repeat' (apply spl <;> intro))
    · have := h (w 182) (fun j h1 h2 => by omega) (fun j _ => rfl)
      rwa [ubf_sf] at this
    · exfalso; omega
  | r + 1, i, w, hi, h => by
    apply M_image_144_c12
    (repeat' (apply spl <;> intro))
    · exfalso; omega
    · (refine And.intro (by omega) ?_)
      rw [w32_id (x := 645 * (k : Int)) (by unfold in32; omega), w32_id (x := 645 * (k : Int) + i) (by unfold in32; omega), w32_id (x := (i : Int) + 1) (by unfold in32; omega)]
      (refine And.intro (by omega) ?_)
      refine L_image12 k hk r (i + 1) _ (by omega) ?_
      intro g g1 g2
      have e1 : (645 * (k : Int) + i).toNat = 645 * k + i := by omega
      rw [e1, Int.toNat_natCast] at g2 ⊢
      have h3 := h g (fun j h1 h2 => by
        by_cases q : j = i
        · subst q
          rw [g2 _ (by omega)]
          simp (decide := true) only [ub_ap, ↓reduceIte]
        · rw [g1 j (by omega) h2]; rfl) (fun j hj => by
          rw [g2 j (by omega)]
          simp (decide := true) only [ub_ap, ↓reduceIte]
          rw [if_neg (by omega)])
      refine Eq.mp ?_ h3
      congr 1
      (funext c i; simp (decide := true) only [ub_ap, ubf_ap, up1_ap, ↓reduceIte]; (repeat' split) <;> first | rfl | omega | (simp_all; done) | (subst_vars; simp_all; done))
theorem L_image31 {d : Nat} {n1 : Int} {Q : MV → Wd → Prop} (k : Nat) (hk : k ≤ 1) : ∀ (r i : Nat) (w : Wd), i + r = 14 →
    (∀ g : Nat → Int, (∀ j : Nat, i ≤ j → j < 14 → g (14 * k + j) = w 149 j) → (∀ j : Nat, j < 14 * k + i ∨ 14 * k + 14 ≤ j → g j = w 183 j) → Q (mI 1) (ub (ubf w 183 g) 184 k 1)) →
    Wp (Cw (d + 1)) cd_M_image (2, 0, n1) Q 31 [mR 144, mI k, mI i] [] w
  | 0, i, w, hi, h => by
    apply M_image_144_c31
    (repeat' (apply spl <;> intro))
    · (refine And.intro (by omega) ?_)
      have := h (w 183) (fun j h1 h2 => by omega) (fun j _ => rfl)
      rwa [ubf_sf] at this
    · exfalso; omega
  | r + 1, i, w, hi, h => by
    apply M_image_144_c31
    (repeat' (apply spl <;> intro))
    · exfalso; omega
    · (refine And.intro (by omega) ?_)
      rw [w32_id (x := 14 * (k : Int)) (by unfold in32; omega), w32_id (x := 14 * (k : Int) + i) (by unfold in32; omega), w32_id (x := (i : Int) + 1) (by unfold in32; omega)]
      (refine And.intro (by omega) ?_)
      refine L_image31 k hk r (i + 1) _ (by omega) ?_
      intro g g1 g2
      have e1 : (14 * (k : Int) + i).toNat = 14 * k + i := by omega
      rw [e1, Int.toNat_natCast] at g2 ⊢
      have h3 := h g (fun j h1 h2 => by
        by_cases q : j = i
        · subst q
          rw [g2 _ (by omega)]
          simp (decide := true) only [ub_ap, ↓reduceIte]
        · rw [g1 j (by omega) h2]; rfl) (fun j hj => by
          rw [g2 j (by omega)]
          simp (decide := true) only [ub_ap, ↓reduceIte]
          rw [if_neg (by omega)])
      refine cw_ h3 ?_
      (funext c i; simp (decide := true) only [ub_ap, ubf_ap, up1_ap, ↓reduceIte]; (repeat' split) <;> first | rfl | omega | (simp_all; done) | (subst_vars; simp_all; done))
