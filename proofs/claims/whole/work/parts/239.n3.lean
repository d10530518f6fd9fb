theorem S_bookAdd {d : Nat} {Q : MV → Wd → Prop} {w : Wd} (u a b hr : Int) (N : Nat) (hN : N ≤ 40) (hn : w 36 0 = N) (s : Nat → Int) (hu : ∀ i : Nat, i < N → w 37 i = s (485 + 4 * i))
    (k1 : N = 40 ∨ 8 ≤ cntN s u N → Q (mI (-1)) w) (k2 : N < 40 → cntN s u N < 8 → Q (mI N) (ub (ub (ub (ub (ub w 37 N u) 38 N a) 39 N b) 40 N hr) 36 0 (N + 1))) : Cw (d + 1) 158 [mR 36, mI u, mI a, mI b, mI hr] w Q := by
  apply Book_add_36_en
  intro n1
  have lp : ∀ (r i : Nat), i + r = N → Wp (Cw (d + 0)) cd_Book_add (1, 0, n1) Q 4 [mR 36, mI u, mI a, mI b, mI hr, mI (cntN s u i : Nat), mI i] [] w := by
    intro r
    induction r with
    | zero =>
      intro i hi
      have : i = N := by omega
      subst this
      apply Book_add_36_c4
      rw [hn]
      (repeat' (apply spl <;> intro))
      · exact k1 (Or.inl (by omega))
      · (refine And.intro (by omega) ?_); (refine And.intro (by omega) ?_); (refine And.intro (by omega) ?_); (refine And.intro (by omega) ?_)
        have q := k2 (by omega) (by omega)
        rw [w32_id (x := (i : Int) + 1) (by unfold in32; omega), w32_id (x := (i : Int) + 1 - 1) (by unfold in32; omega), Int.toNat_natCast, show (i : Int) + 1 - 1 = i by omega]
        exact q
      · exact k1 (Or.inr (by omega))
      · exfalso; omega
    | succ r ih =>
      intro i hi
      have e := hu i (by omega)
      have bd : ∀ n, cntN s u n ≤ n := by
        intro n
        induction n with
        | zero => exact Nat.le_refl _
        | succ n ih => show cntN s u n + (if s (485 + 4 * n) = u then 1 else 0) ≤ n + 1; split <;> omega
      have bd := bd i
      have es : cntN s u (i + 1) = cntN s u i + (if s (485 + 4 * i) = u then 1 else 0) := rfl
      apply Book_add_36_c4
      rw [hn]
      simp only [Int.toNat_natCast]
      rw [e, w32_id (x := (i : Int) + 1) (by unfold in32; omega), w32_id (x := ((cntN s u i : Nat) : Int) + 0) (by unfold in32; omega), w32_id (x := ((cntN s u i : Nat) : Int) + 1) (by unfold in32; omega)]
      (repeat' (apply spl <;> intro))
      · exfalso; omega
      · exfalso; omega
      · exfalso; omega
      · (refine And.intro (by omega) ?_)
        (repeat' (apply spl <;> intro))
        · rename_i q
          have := ih (i + 1) (by omega)
          rw [es, if_neg q] at this
          exact this
        · rename_i q
          have q : s (485 + 4 * i) = u := Decidable.not_not.mp q
          have := ih (i + 1) (by omega)
          rw [es, if_pos q] at this
          exact this
  exact lp N 0 (by omega)
theorem S_mnote {d : Nat} {Q : MV → Wd → Prop} {w : Wd} (u a b t : Int) (N : Nat) (hN : w 146 484 = N) (hl : N < 40) (hc : cntN (w 146) u N < 8) (u0 : 0 ≤ u) (u1 : u < w 146 2) (u2 : w 146 2 ≤ 16) (a0 : 0 ≤ a) (a1 : a < w 146 0) (a2 : w 146 0 ≤ 8) (b0 : 0 ≤ b) (b1 : b < w 146 0) (ab : ¬ a = b) (t0 : 0 ≤ t) (t1 : t < 48)
    (k : ∀ f g : Nat → Int, Q (mI N) (ub (ub (ub (ub (ub (ub (ubf (ubf (ub w 144 0 0) 180 f) 181 g) 144 75 (cntN (w 146) u N)) 146 (485 + 4 * N) u) 146 (486 + 4 * N) a) 146 (487 + 4 * N) b) 146 (488 + 4 * N) t) 146 484 (N + 1))) : Cw (d + 3) 269 [mR 144, mI u, mI a, mI b, mI t] w Q := by
  apply M_note_144_en
  (repeat' (apply spl <;> intro))
  all_goals try (exfalso; ((try simp (disch := (unfold in32; omega)) only [w32_id] at *); (try simp (disch := (unfold in32; omega)) only [w32_id] at *)); omega)
  refine S_notesOf u N (by omega) hN (by show cntN (w 146) u N ≤ 8; omega) ?_
  intro f g _ _
  have e : ∀ c : Int, (ub (ubf (ubf (ub w 144 0 0) 180 f) 181 g) 144 75 c) 146 = w 146 := fun _ => rfl
  have e2 : ∀ c : Int, (ub (ubf (ubf (ub w 144 0 0) 180 f) 181 g) 144 75 c) 144 75 = c := fun _ => rfl
  have e3 : (ub w 144 0 0) 146 = w 146 := rfl
  have i0 : (485 + 4 * (N : Int)).toNat = 485 + 4 * N := by omega
  have i1 : (485 + 4 * (N : Int) + 1).toNat = 486 + 4 * N := by omega
  have i2 : (485 + 4 * (N : Int) + 2).toNat = 487 + 4 * N := by omega
  have i3 : (485 + 4 * (N : Int) + 3).toNat = 488 + 4 * N := by omega
  have z : ∀ f : Nat → Int, up1 (up1 (up1 (up1 f (485 + 4 * N) u) (486 + 4 * N) a) (487 + 4 * N) b) (488 + 4 * N) t 484 = f 484 := by
    intro f
    simp only [up1_ap]
    rw [if_neg (by omega), if_neg (by omega), if_neg (by omega), if_neg (by omega)]
  rw [e2, e3]
  simp only [e, hN]
  rw [w32_id (x := 4 * (N : Int)) (by unfold in32; omega), w32_id (x := 485 + 4 * (N : Int)) (by unfold in32; omega), w32_id (x := 485 + 4 * (N : Int) + 1) (by unfold in32; omega), w32_id (x := 485 + 4 * (N : Int) + 2) (by unfold in32; omega), w32_id (x := 485 + 4 * (N : Int) + 3) (by unfold in32; omega), i0, i1, i2, i3, z, hN, w32_id (x := (N : Int) + 1) (by unfold in32; omega), w32_id (x := (N : Int) + 1 - 1) (by unfold in32; omega), show (N : Int) + 1 - 1 = N by omega]
  (repeat' (apply spl <;> intro))
  · (refine And.intro (by omega) ?_); (refine And.intro (by omega) ?_); (refine And.intro (by omega) ?_); (refine And.intro (by omega) ?_)
    exact k f g
  · exfalso; omega
theorem P_note {d : Nat} {w : Wd} (h : Inv w) (u a b t : Int) : Pair (d + 4) 157 269 [mI u, mI a, mI b, mI t] w := by
  have k0 : Inv (ub w 144 0 0) := (Inv.mk h.tape h.fault h.ws h.wp h.wb h.rv h.rp h.rb h.im0 h.im1 h.stale h.told h.wat h.hands h.hand h.askers h.asked h.gainers h.gained h.mid h.star h.done h.day h.shown h.words h.reserved)
  have e8 := h.rv.units
  have e0 := h.rv.people
  have pe := h.ws.pe
  have un := h.ws.un
  have nb := h.wb.notes
  obtain ⟨N, hN⟩ := Int.eq_ofNat_of_zero_le nb.1
  have hb : w 36 0 = N := by rw [h.rb.notes, hN]
  have h8 := h.wb.eight u
  rw [hN, Int.toNat_natCast] at h8
  have no : ∀ w1 : Wd, w1 146 = w 146 → w1 144 = w 144 → (u < 0 ∨ w 146 2 ≤ u ∨ a < 0 ∨ w 146 0 ≤ a ∨ b < 0 ∨ w 146 0 ≤ b ∨ a = b ∨ t < 0 ∨ 48 ≤ t ∨ N = 40) → w1 = w → Cw (d + 4) 269 [mR 144, mI u, mI a, mI b, mI t] w1 (Post w (-1)) := by
    intro w1 _ _ hbad hw
    subst hw
    apply M_note_144_en
    (repeat' (apply spl <;> intro))
    all_goals first
      | exact Post.k rfl k0 rfl rfl
      | (exfalso; ((try simp (disch := (unfold in32; omega)) only [w32_id] at *); (try simp (disch := (unfold in32; omega)) only [w32_id] at *)); omega)
  unfold Pair
  apply X_note_0_en
  (repeat' (apply spl <;> intro))
  all_goals try ((apply Mid.k); exact no w rfl rfl (by omega) rfl)
  refine S_bookAdd u a b t N (by omega) hb (w 146) (fun i hi => h.rb.unit i (by omega)) ?_ ?_
  · intro hbad
    refine ⟨_, rfl, ?_⟩
    (apply Mid.k)
    rcases hbad with q | q
    · exact no w rfl rfl (by omega) rfl
    · apply M_note_144_en
      (repeat' (apply spl <;> intro))
      all_goals first
        | exact Post.k rfl k0 rfl rfl
        | skip
      refine S_notesOf u N (by omega) hN h8 ?_
      intro f g _ _
      (repeat' (apply spl <;> intro))
      · exfalso
        rename_i q1
        apply q1
        show ((cntN (w 146) u N : Nat) : Int) = 8
        omega
      · exact Post.k rfl (Inv.mk h.tape h.fault h.ws h.wp h.wb h.rv h.rp h.rb h.im0 h.im1 h.stale h.told h.wat h.hands h.hand h.askers h.asked h.gainers h.gained h.mid h.star h.done h.day h.shown h.words h.reserved) rfl rfl
  · intro hlt hc
    refine ⟨_, rfl, ?_⟩
    (apply Mid.k)
    refine S_mnote u a b t N hN hlt hc (by omega) (show u < w 146 2 by omega) un.2 (by omega) (show a < w 146 0 by omega) pe.2 (by omega) (show b < w 146 0 by omega) (by assumption) (by omega) (by omega) ?_
    intro f g
    have es : ∀ i : Nat, i < 484 → up1 (up1 (up1 (up1 (up1 (w 146) (485 + 4 * N) u) (486 + 4 * N) a) (487 + 4 * N) b) (488 + 4 * N) t) 484 (N + 1) i = w 146 i := by
      intro i hi
      simp only [up1_ap]
      rw [if_neg (by omega), if_neg (by omega), if_neg (by omega), if_neg (by omega), if_neg (by omega)]
    have lo : ∀ i : Nat, 484 < i → i < 485 + 4 * N → up1 (up1 (up1 (up1 (up1 (w 146) (485 + 4 * N) u) (486 + 4 * N) a) (487 + 4 * N) b) (488 + 4 * N) t) 484 (N + 1) i = w 146 i := by
      intro i hi h2
      simp only [up1_ap]
      rw [if_neg (by omega), if_neg (by omega), if_neg (by omega), if_neg (by omega), if_neg (by omega)]
    have x0 : up1 (up1 (up1 (up1 (up1 (w 146) (485 + 4 * N) u) (486 + 4 * N) a) (487 + 4 * N) b) (488 + 4 * N) t) 484 (N + 1) 484 = (N + 1 : Nat) := by
      simp only [up1_ap, if_true]; (repeat' split) <;> first | rfl | omega
    have x1 : up1 (up1 (up1 (up1 (up1 (w 146) (485 + 4 * N) u) (486 + 4 * N) a) (487 + 4 * N) b) (488 + 4 * N) t) 484 (N + 1) (485 + 4 * N) = u := by
      simp only [up1_ap, if_true]; (repeat' split) <;> first | rfl | omega
    have x2 : up1 (up1 (up1 (up1 (up1 (w 146) (485 + 4 * N) u) (486 + 4 * N) a) (487 + 4 * N) b) (488 + 4 * N) t) 484 (N + 1) (486 + 4 * N) = a := by
      simp only [up1_ap, if_true]; (repeat' split) <;> first | rfl | omega
    have x3 : up1 (up1 (up1 (up1 (up1 (w 146) (485 + 4 * N) u) (486 + 4 * N) a) (487 + 4 * N) b) (488 + 4 * N) t) 484 (N + 1) (487 + 4 * N) = b := by
      simp only [up1_ap, if_true]; (repeat' split) <;> first | rfl | omega
    have x4 : up1 (up1 (up1 (up1 (up1 (w 146) (485 + 4 * N) u) (486 + 4 * N) a) (487 + 4 * N) b) (488 + 4 * N) t) 484 (N + 1) (488 + 4 * N) = t := by
      simp only [up1_ap, if_true]; (repeat' split) <;> first | rfl | omega
    refine Post.k rfl (Inv.mk h.tape h.fault (WS.ex (fun i hi => es i (by omega)) h.ws) (WP.ex es h.wp) ?_ (RV.ex (fun i hi => es i (by omega)) (fun _ _ => rfl) h.ws h.rv) (RP.ex es h.wp h.rp) ?_ h.im0 h.im1 h.stale (fun q => Told.ex (fun i hi => es i (by omega)) h.ws (h.told q)) h.wat h.hands h.hand h.askers h.asked h.gainers h.gained h.mid h.star h.done h.day h.shown h.words h.reserved) rfl rfl
    · show WB (up1 (up1 (up1 (up1 (up1 (w 146) (485 + 4 * N) u) (486 + 4 * N) a) (487 + 4 * N) b) (488 + 4 * N) t) 484 (N + 1))
      generalize up1 (up1 (up1 (up1 (up1 (w 146) (485 + 4 * N) u) (486 + 4 * N) a) (487 + 4 * N) b) (488 + 4 * N) t) 484 (N + 1) = s' at *
      refine (WB.mk (by rw [x0]; omega) ?_ ?_ ?_ ?_ ?_)
      · intro i hi
        rw [x0] at hi
        rw [es 2 (by omega)]
        by_cases q : i = N
        · subst q; rw [x1]; omega
        · rw [lo _ (by omega) (by omega)]; exact h.wb.unit i (by omega)
      · intro i hi
        rw [x0] at hi
        rw [es 0 (by omega)]
        by_cases q : i = N
        · subst q; rw [x2]; omega
        · rw [lo _ (by omega) (by omega)]; exact h.wb.from' i (by omega)
      · intro i hi
        rw [x0] at hi
        rw [es 0 (by omega)]
        by_cases q : i = N
        · subst q; rw [x3]; omega
        · rw [lo _ (by omega) (by omega)]; exact h.wb.to i (by omega)
      · intro i hi
        rw [x0] at hi
        by_cases q : i = N
        · subst q; rw [x4]; omega
        · rw [lo _ (by omega) (by omega)]; exact h.wb.hour i (by omega)
      · intro v
        rw [x0, Int.toNat_natCast]
        show cntN s' v N + (if s' (485 + 4 * N) = v then 1 else 0) ≤ 8
        rw [cntN_ext v N (fun i hi => lo _ (by omega) (by omega)), x1]
        have h9 := h.wb.eight v
        rw [hN, Int.toNat_natCast] at h9
        split
        · rename_i q; subst q; omega
        · omega
    · show RB (up1 (w 36) 0 (N + 1)) (up1 (w 37) N u) (up1 (w 38) N a) (up1 (w 39) N b) (up1 (w 40) N t) (up1 (up1 (up1 (up1 (up1 (w 146) (485 + 4 * N) u) (486 + 4 * N) a) (487 + 4 * N) b) (488 + 4 * N) t) 484 (N + 1))
      generalize up1 (up1 (up1 (up1 (up1 (w 146) (485 + 4 * N) u) (486 + 4 * N) a) (487 + 4 * N) b) (488 + 4 * N) t) 484 (N + 1) = s' at *
      refine (RB.mk (by rw [x0]; exact Int.natCast_succ N ▸ rfl) ?_ ?_ ?_ ?_)
      · intro i hi
        rw [x0] at hi
        rw [up1_ap]
        by_cases q : i = N
        · subst q; rw [x1, if_pos rfl]
        · rw [lo _ (by omega) (by omega), if_neg q]; exact h.rb.unit i (by omega)
      · intro i hi
        rw [x0] at hi
        rw [up1_ap]
        by_cases q : i = N
        · subst q; rw [x2, if_pos rfl]
        · rw [lo _ (by omega) (by omega), if_neg q]; exact h.rb.from' i (by omega)
      · intro i hi
        rw [x0] at hi
        rw [up1_ap]
        by_cases q : i = N
        · subst q; rw [x3, if_pos rfl]
        · rw [lo _ (by omega) (by omega), if_neg q]; exact h.rb.to i (by omega)
      · intro i hi
        rw [x0] at hi
        rw [up1_ap]
        by_cases q : i = N
        · subst q; rw [x4, if_pos rfl]
        · rw [lo _ (by omega) (by omega), if_neg q]; exact h.rb.hour i (by omega)
