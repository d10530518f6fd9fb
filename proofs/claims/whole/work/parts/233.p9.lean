theorem S_image_out {d : Nat} {Q : MV → Wd → Prop} {w : Wd} {x : Int} (hx : x < 0 ∨ 2 ≤ x) (k : Q (mI 0) w) : Cw (d + 1) 164 [mR 0, mI x] w Q := by
  apply Cw_in (by decide) (by decide) (Nat.le_of_ble_eq_true rfl)
  intro n1
  have fin : ∀ l : List MV, Wp (Cw d) cd_X_image (2, 0, n1) Q 7 l [] w := fun l => Wp.s (Wp.s ⟨Or.inl rfl, k⟩)
  exact Wp.s (Wp.s ⟨fun _ => fin _, fun q => Wp.s (Wp.s (Wp.s (Wp.s (Wp.s ⟨fun q2 => absurd (show x < 2 from q2) (by have : ¬ x < 0 := q; omega), fun _ => fin _⟩))))⟩)
theorem S_restore_out {d : Nat} {Q : MV → Wd → Prop} {w : Wd} {x : Int} (hx : x < 0 ∨ 2 ≤ x) (k : Q (mI 0) w) : Cw (d + 1) 166 [mR 0, mI x] w Q := by
  apply Cw_in (by decide) (by decide) (Nat.le_of_ble_eq_true rfl)
  intro n1
  have fin : ∀ l : List MV, Wp (Cw d) cd_X_restore (2, 0, n1) Q 13 l [] w := fun l => Wp.s (Wp.s ⟨Or.inl rfl, k⟩)
  exact Wp.s (Wp.s ⟨fun _ => fin _, fun q => Wp.s (Wp.s (Wp.s (Wp.s (Wp.s ⟨fun _ => fin _, fun q2 => absurd (show ¬ (2 : Int) ≤ x from q2) (by have : ¬ x < 0 := q; omega)⟩))))⟩)
theorem P_image {d : Nat} {w : Wd} (h : Inv w) (x : Int) : Pair (d + 4) 164 273 [mI x] w := by
  have k0 : Inv (ub w 144 0 0) := (Inv.mk h.tape h.fault h.ws h.wp h.wb h.rv h.rp h.rb h.im0 h.im1 h.stale h.told h.wat h.hands h.hand h.askers h.asked h.gainers h.gained h.mid h.star h.done h.day h.shown h.words h.reserved)
  unfold Pair
  by_cases hx : x < 0 ∨ 2 ≤ x
  · refine S_image_out hx ?_
    (apply Mid.k)
    apply M_image_144_en
    intro n1
    (repeat' (apply spl <;> intro))
    · exact Post.k rfl k0 rfl rfl
    · exact Post.k rfl k0 rfl rfl
    · exfalso; omega
  · have hx : x = 0 ∨ x = 1 := by omega
    rcases hx with rfl | rfl
    · apply X_image_0_k0_en
      refine S_copyV_45_4 ?_
      intro g1 g2 g3 g4 g5 g6 g7 g8 g9 g10 g11 a1 a2 a3 a4 a5 a6 a7 a8 a9 a10 a11
      refine S_copyP_57_28 ?_
      intro p1 p2 p3 b1 b2 b3
      refine S_copyB_61_36 ?_
      intro n1 n2 n3 n4 c1 c2 c3 c4
      (apply Mid.k)
      apply M_image_144_en
      intro z
      (repeat' (apply spl <;> intro))
      · exfalso; omega
      · exfalso; omega
      · refine L_image12 0 (by omega) 645 0 _ (by omega) ?_
        intro u u1 u2
        refine L_image31 0 (by omega) 14 0 _ (by omega) ?_
        intro v v1 v2
        have eu : ∀ i : Nat, i < 645 → u i = w 146 i := fun i hi => by have := u1 i (by omega) hi; rw [show 645 * 0 + i = i by omega] at this; exact this
        have ev : ∀ i : Nat, i < 14 → v i = w 149 i := fun i hi => by have := v1 i (by omega) hi; rw [show 14 * 0 + i = i by omega] at this; exact this
        have ov : ∀ i : Nat, 645 ≤ i → u i = w 182 i := fun i hi => u2 i (by omega)
        have ow : ∀ i : Nat, 14 ≤ i → v i = w 183 i := fun i hi => v2 i (by omega)
        refine Post.k rfl (Inv.mk h.tape h.fault h.ws h.wp h.wb h.rv h.rp h.rb ?_ ?_ h.stale h.told h.wat h.hands h.hand h.askers h.asked h.gainers h.gained h.mid h.star h.done h.day h.shown h.words h.reserved) rfl rfl
        · refine (IM.mk (rfl) (Or.inr rfl) (fun _ => WS.ext eu h.ws) (fun _ => WP.ext eu h.wp) (fun _ => WB.ext eu h.wb) (fun _ => ?_) (fun _ => ?_) (fun _ => ?_))
          · exact RV.ext eu ev h.ws (RV.copy h.ws h.rv rfl rfl rfl rfl rfl rfl a1 a2 a3 a4 a5 a6 a7 a8 a9 a10 a11)
          · exact RP.ext eu h.wp (RP.copy h.wp h.rp rfl b1 b2 b3)
          · exact RB.ext eu h.wb (RB.copy h.wb h.rb rfl c1 c2 c3 c4)
        · have m := h.im1
          have e1 : (fun i => u (645 + i)) = (fun i => w 182 (645 + i)) := funext fun i => ov _ (by omega)
          have e2 : (fun i => v (14 + i)) = (fun i => w 183 (14 + i)) := funext fun i => ow _ (by omega)
          rw [← e1, ← e2] at m
          exact (IM.mk m.eq m.is m.ws m.wp m.wb m.rv m.rp m.rb)
    · apply X_image_0_k1_en
      refine S_copyV_69_4 ?_
      intro g1 g2 g3 g4 g5 g6 g7 g8 g9 g10 g11 a1 a2 a3 a4 a5 a6 a7 a8 a9 a10 a11
      refine S_copyP_81_28 ?_
      intro p1 p2 p3 b1 b2 b3
      refine S_copyB_85_36 ?_
      intro n1 n2 n3 n4 c1 c2 c3 c4
      (apply Mid.k)
      apply M_image_144_en
      intro z
      (repeat' (apply spl <;> intro))
      · exfalso; omega
      · exfalso; omega
      · refine L_image12 1 (by omega) 645 0 _ (by omega) ?_
        intro u u1 u2
        refine L_image31 1 (by omega) 14 0 _ (by omega) ?_
        intro v v1 v2
        have eu : ∀ i : Nat, i < 645 → u (645 + i) = w 146 i := fun i hi => u1 i (by omega) hi
        have ev : ∀ i : Nat, i < 14 → v (14 + i) = w 149 i := fun i hi => v1 i (by omega) hi
        have ov : ∀ i : Nat, i < 645 → u i = w 182 i := fun i hi => u2 i (by omega)
        have ow : ∀ i : Nat, i < 14 → v i = w 183 i := fun i hi => v2 i (by omega)
        refine Post.k rfl (Inv.mk h.tape h.fault h.ws h.wp h.wb h.rv h.rp h.rb ?_ ?_ h.stale h.told h.wat h.hands h.hand h.askers h.asked h.gainers h.gained h.mid h.star h.done h.day h.shown h.words h.reserved) rfl rfl
        · have m := h.im0
          exact (IM.mk (m.eq) (m.is) (fun q => WS.ext ov (m.ws q)) (fun q => WP.ext ov (m.wp q)) (fun q => WB.ext ov (m.wb q)) (fun q => RV.ext ov ow (m.ws q) (m.rv q)) (fun q => RP.ext ov (m.wp q) (m.rp q)) (fun q => RB.ext ov (m.wb q) (m.rb q)))
        · refine (IM.mk (rfl) (Or.inr rfl) (fun _ => WS.ext eu h.ws) (fun _ => WP.ext eu h.wp) (fun _ => WB.ext eu h.wb) (fun _ => ?_) (fun _ => ?_) (fun _ => ?_))
          · exact RV.ext eu ev h.ws (RV.copy h.ws h.rv rfl rfl rfl rfl rfl rfl a1 a2 a3 a4 a5 a6 a7 a8 a9 a10 a11)
          · exact RP.ext eu h.wp (RP.copy h.wp h.rp rfl b1 b2 b3)
          · exact RB.ext eu h.wb (RB.copy h.wb h.rb rfl c1 c2 c3 c4)
