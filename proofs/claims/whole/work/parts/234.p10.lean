theorem L_restore17 {d : Nat} {n1 : Int} {Q : MV → Wd → Prop} (k : Nat) (hk : k ≤ 1) : ∀ (r i : Nat) (w : Wd), i + r = 645 →
    (∀ g : Nat → Int, (∀ j : Nat, i ≤ j → j < 645 → g j = w 182 (645 * k + j)) → (∀ j : Nat, j < i ∨ 645 ≤ j → g j = w 146 j) → Wp (Cw (d + 1)) cd_M_restore (2, 0, n1) Q 36 [mR 144, mI k, mI 0] [] (ubf w 146 g)) →
    Wp (Cw (d + 1)) cd_M_restore (2, 0, n1) Q 17 [mR 144, mI k, mI i] [] w
  | 0, i, w, hi, h => by
    apply M_restore_144_c17
    (repeat' (apply spl <;> intro))
    · have := h (w 146) (fun j h1 h2 => by omega) (fun j _ => rfl)
      rwa [ubf_sf] at this
    · exfalso; omega
  | r + 1, i, w, hi, h => by
    apply M_restore_144_c17
    (repeat' (apply spl <;> intro))
    · exfalso; omega
    · rw [w32_id (x := 645 * (k : Int)) (by unfold in32; omega), w32_id (x := 645 * (k : Int) + i) (by unfold in32; omega), w32_id (x := (i : Int) + 1) (by unfold in32; omega)]
      (refine And.intro (by omega) ?_)
      (refine And.intro (by omega) ?_)
      refine L_restore17 k hk r (i + 1) _ (by omega) ?_
      intro g g1 g2
      have e1 : (645 * (k : Int) + i).toNat = 645 * k + i := by omega
      rw [e1, Int.toNat_natCast] at g2 ⊢
      have h3 := h g (fun j h1 h2 => by
        by_cases q : j = i
        · subst q
          rw [g2 _ (by omega)]
          simp (decide := true) only [ub_ap, ↓reduceIte]
        · rw [g1 j (by omega) h2]; rfl) (fun j hj => by
          rw [g2 j (by omega)]
          simp (decide := true) only [ub_ap, ↓reduceIte]
          rw [if_neg (by omega)])
      refine Eq.mp ?_ h3
      congr 1
      (funext c i; simp (decide := true) only [ub_ap, ubf_ap, up1_ap, ↓reduceIte]; (repeat' split) <;> first | rfl | omega | (simp_all; done) | (subst_vars; simp_all; done))
theorem L_restore36 {d : Nat} {n1 : Int} {Q : MV → Wd → Prop} (k : Nat) (hk : k ≤ 1) : ∀ (r i : Nat) (w : Wd), i + r = 14 →
    (∀ g : Nat → Int, (∀ j : Nat, i ≤ j → j < 14 → g j = w 183 (14 * k + j)) → (∀ j : Nat, j < i ∨ 14 ≤ j → g j = w 149 j) → Q (mI 1) (ubf w 149 g)) →
    Wp (Cw (d + 1)) cd_M_restore (2, 0, n1) Q 36 [mR 144, mI k, mI i] [] w
  | 0, i, w, hi, h => by
    apply M_restore_144_c36
    (repeat' (apply spl <;> intro))
    · have := h (w 149) (fun j h1 h2 => by omega) (fun j _ => rfl)
      rwa [ubf_sf] at this
    · exfalso; omega
  | r + 1, i, w, hi, h => by
    apply M_restore_144_c36
    (repeat' (apply spl <;> intro))
    · exfalso; omega
    · rw [w32_id (x := 14 * (k : Int)) (by unfold in32; omega), w32_id (x := 14 * (k : Int) + i) (by unfold in32; omega), w32_id (x := (i : Int) + 1) (by unfold in32; omega)]
      (refine And.intro (by omega) ?_)
      (refine And.intro (by omega) ?_)
      refine L_restore36 k hk r (i + 1) _ (by omega) ?_
      intro g g1 g2
      have e1 : (14 * (k : Int) + i).toNat = 14 * k + i := by omega
      rw [e1, Int.toNat_natCast] at g2 ⊢
      have h3 := h g (fun j h1 h2 => by
        by_cases q : j = i
        · subst q
          rw [g2 _ (by omega)]
          simp (decide := true) only [ub_ap, ↓reduceIte]
        · rw [g1 j (by omega) h2]; rfl) (fun j hj => by
          rw [g2 j (by omega)]
          simp (decide := true) only [ub_ap, ↓reduceIte]
          rw [if_neg (by omega)])
      refine cw_ h3 ?_
      (funext c i; simp (decide := true) only [ub_ap, ubf_ap, up1_ap, ↓reduceIte]; (repeat' split) <;> first | rfl | omega | (simp_all; done) | (subst_vars; simp_all; done))
theorem P_restore {d : Nat} {w : Wd} (h : Inv w) (x : Int) : Pair (d + 4) 166 274 [mI x] w := by
  have k0 : Inv (ub w 144 0 0) := (Inv.mk h.tape h.fault h.ws h.wp h.wb h.rv h.rp h.rb h.im0 h.im1 h.stale h.told h.wat h.hands h.hand h.askers h.asked h.gainers h.gained h.mid h.star h.done h.day h.shown h.words h.reserved)
  unfold Pair
  by_cases hx : x < 0 ∨ 2 ≤ x
  · refine S_restore_out hx ?_
    (apply Mid.k)
    apply M_restore_144_en
    intro n1
    (repeat' (apply spl <;> intro))
    · exact Post.k rfl k0 rfl rfl
    · exact Post.k rfl k0 rfl rfl
    · exfalso; omega
  · have hx : x = 0 ∨ x = 1 := by omega
    rcases hx with rfl | rfl
    · apply X_restore_0_k0_en
      (repeat' (apply spl <;> intro))
      · refine S_copyV_4_45 ?_
        intro g1 g2 g3 g4 g5 g6 g7 g8 g9 g10 g11 a1 a2 a3 a4 a5 a6 a7 a8 a9 a10 a11
        refine S_copyP_28_57 ?_
        intro p1 p2 p3 b1 b2 b3
        refine S_copyB_36_61 ?_
        intro n1 n2 n3 n4 c1 c2 c3 c4
        (apply Mid.k)
        apply M_restore_144_en
        intro z
        (repeat' (apply spl <;> intro))
        · exfalso; omega
        · exfalso; omega
        · (refine And.intro (by omega) ?_)
          (repeat' (apply spl <;> intro))
          · have m := h.im0
            have m1 : w 184 0 = 1 := by
              have t1 := m.eq
              have t2 := m.is
              omega
            refine L_restore17 0 (by omega) 645 0 _ (by omega) ?_
            intro u u1 u2
            refine L_restore36 0 (by omega) 14 0 _ (by omega) ?_
            intro v v1 v2
            have eu : ∀ i : Nat, i < 645 → u i = w 182 (i) := fun i hi => by have := u1 i (by omega) hi; rw [show 645 * 0 + i = i by omega] at this; exact this
            have ev : ∀ i : Nat, i < 14 → v i = w 183 (i) := fun i hi => by have := v1 i (by omega) hi; rw [show 14 * 0 + i = i by omega] at this; exact this
            refine Post.k rfl (Inv.mk h.tape h.fault (WS.ext eu (m.ws m1)) (WP.ext eu (m.wp m1)) (WB.ext eu (m.wb m1)) ?_ ?_ ?_ h.im0 h.im1 (Or.inr rfl) (fun q => absurd (show (1 : Int) = 0 from q) (by decide)) h.wat h.hands h.hand h.askers h.asked h.gainers h.gained h.mid h.star h.done h.day h.shown h.words h.reserved) rfl rfl
            · exact RV.ext eu ev (m.ws m1) (RV.copy (m.ws m1) (m.rv m1) rfl rfl rfl rfl rfl rfl a1 a2 a3 a4 a5 a6 a7 a8 a9 a10 a11)
            · exact RP.ext eu (m.wp m1) (RP.copy (m.wp m1) (m.rp m1) rfl b1 b2 b3)
            · exact RB.ext eu (m.wb m1) (RB.copy (m.wb m1) (m.rb m1) rfl c1 c2 c3 c4)
          · exfalso
            rename_i q0 _ _ q
            apply q
            show ¬ w 184 0 = 0
            rw [← h.im0.eq]; exact q0
      · (apply Mid.k)
        apply M_restore_144_en
        intro z
        (repeat' (apply spl <;> intro))
        · exfalso; omega
        · exfalso; omega
        · (refine And.intro (by omega) ?_)
          (repeat' (apply spl <;> intro))
          · exfalso
            rename_i q0 _ _ q
            apply q0
            rw [h.im0.eq]; exact q
          · exact Post.k rfl k0 rfl rfl
    · apply X_restore_0_k1_en
      (repeat' (apply spl <;> intro))
      · refine S_copyV_4_69 ?_
        intro g1 g2 g3 g4 g5 g6 g7 g8 g9 g10 g11 a1 a2 a3 a4 a5 a6 a7 a8 a9 a10 a11
        refine S_copyP_28_81 ?_
        intro p1 p2 p3 b1 b2 b3
        refine S_copyB_36_85 ?_
        intro n1 n2 n3 n4 c1 c2 c3 c4
        (apply Mid.k)
        apply M_restore_144_en
        intro z
        (repeat' (apply spl <;> intro))
        · exfalso; omega
        · exfalso; omega
        · (refine And.intro (by omega) ?_)
          (repeat' (apply spl <;> intro))
          · have m := h.im1
            have m1 : w 184 1 = 1 := by
              have t1 := m.eq
              have t2 := m.is
              omega
            refine L_restore17 1 (by omega) 645 0 _ (by omega) ?_
            intro u u1 u2
            refine L_restore36 1 (by omega) 14 0 _ (by omega) ?_
            intro v v1 v2
            have eu : ∀ i : Nat, i < 645 → u i = w 182 (645 + i) := fun i hi => by have := u1 i (by omega) hi; rw [show 645 * 1 + i = 645 + i by omega] at this; exact this
            have ev : ∀ i : Nat, i < 14 → v i = w 183 (14 + i) := fun i hi => by have := v1 i (by omega) hi; rw [show 14 * 1 + i = 14 + i by omega] at this; exact this
            refine Post.k rfl (Inv.mk h.tape h.fault (WS.ext eu (m.ws m1)) (WP.ext eu (m.wp m1)) (WB.ext eu (m.wb m1)) ?_ ?_ ?_ h.im0 h.im1 (Or.inr rfl) (fun q => absurd (show (1 : Int) = 0 from q) (by decide)) h.wat h.hands h.hand h.askers h.asked h.gainers h.gained h.mid h.star h.done h.day h.shown h.words h.reserved) rfl rfl
            · exact RV.ext eu ev (m.ws m1) (RV.copy (m.ws m1) (m.rv m1) rfl rfl rfl rfl rfl rfl a1 a2 a3 a4 a5 a6 a7 a8 a9 a10 a11)
            · exact RP.ext eu (m.wp m1) (RP.copy (m.wp m1) (m.rp m1) rfl b1 b2 b3)
            · exact RB.ext eu (m.wb m1) (RB.copy (m.wb m1) (m.rb m1) rfl c1 c2 c3 c4)
          · exfalso
            rename_i q0 _ _ q
            apply q
            show ¬ w 184 1 = 0
            rw [← h.im1.eq]; exact q0
      · (apply Mid.k)
        apply M_restore_144_en
        intro z
        (repeat' (apply spl <;> intro))
        · exfalso; omega
        · exfalso; omega
        · (refine And.intro (by omega) ?_)
          (repeat' (apply spl <;> intro))
          · exfalso
            rename_i q0 _ _ q
            apply q0
            rw [h.im1.eq]; exact q
          · exact Post.k rfl k0 rfl rfl
