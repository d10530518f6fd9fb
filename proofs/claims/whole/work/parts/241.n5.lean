theorem L_sortO {d : Nat} {n1 : Int} {Q : MV → Wd → Prop} (s : Nat → Int) (u : Int) (N : Nat) (hN : N ≤ 40) (h8 : cntN s u N ≤ 8) :
    ∀ (r k : Nat) (w : Wd), k + r = N → w 36 0 = N → (∀ i, i < N → w 37 i = s (485 + 4 * i)) → (∀ i, i < N → w 40 i = s (488 + 4 * i)) → (∀ i, i < (nst s u k).n → w 41 i = (nst s u k).of ((nst s u k).so i) ∧ w 42 i = (nst s u k).so i) →
      (∀ f g : Nat → Int, (∀ i, i < (nst s u N).n → f i = (nst s u N).of ((nst s u N).so i) ∧ g i = (nst s u N).so i) → Q (mI ((nst s u N).n : Nat)) (ubf (ubf w 41 f) 42 g)) →
      Wp (Cw (d + 0)) cd_Book_sort (1, 0, n1) Q 4 [mR 36, mI u, mI ((nst s u k).n : Nat), mI k, none] [] w
  | 0, k, w, hk, h36, h37, h40, h41, c => by
    have : k = N := by omega
    subst this
    apply Book_sort_36_c4
    rw [h36]
    (repeat' (apply spl <;> intro))
    · have c1 := c (w 41) (w 42) h41
      refine cw_ c1 ?_
      (funext c i; simp (decide := true) only [ub_ap, ubf_ap, up1_ap, ↓reduceIte]; (repeat' split) <;> first | rfl | omega | (simp_all; done) | (subst_vars; simp_all; done))
    · exfalso; omega
    · exfalso; omega
  | r + 1, k, w, hk, h36, h37, h40, h41, c => by
    have ok := nst_ok s u k
    have nn := nst_n s u k
    have e37 := h37 k (by omega)
    have m1 := cntN_mono s u (show k + 1 ≤ N by omega)
    have m2 : cntN s u (k + 1) = cntN s u k + if s (485 + 4 * k) = u then 1 else 0 := rfl
    apply Book_sort_36_c4
    rw [h36]
    simp only [Int.toNat_natCast]
    rw [e37]
    (repeat' (apply spl <;> intro))
    · exfalso; omega
    · -- the size is eight: no further note of the unit
      rename_i _ q8
      have full : ∀ j, k ≤ j → j ≤ N → nst s u j = nst s u k := by
        intro j hj
        induction hj with
        | refl => intro _; rfl
        | step hj ih =>
          rename_i j
          have hj : k ≤ j := hj
          intro hjN
          have hjN : j + 1 ≤ N := hjN
          have e := ih (by omega)
          by_cases q : s (485 + 4 * j) = u
          · exfalso
            have a1 := cntN_mono s u hjN
            have a2 : cntN s u (j + 1) = cntN s u j + 1 := by
              show cntN s u j + (if s (485 + 4 * j) = u then 1 else 0) = _
              rw [if_pos q]
            have a3 := cntN_mono s u hj
            omega
          · show nst s u (j + 1) = _
            rw [nst_succ_no q, e]
      have e := full N (by omega) (Nat.le_refl _)
      rw [e] at c
      have c1 := c (w 41) (w 42) h41
      refine cw_ c1 ?_
      (funext c i; simp (decide := true) only [ub_ap, ubf_ap, up1_ap, ↓reduceIte]; (repeat' split) <;> first | rfl | omega | (simp_all; done) | (subst_vars; simp_all; done))
    · (refine And.intro (by omega) ?_)
      (repeat' (apply spl <;> intro))
      · rename_i q
        rw [w32_id (x := (k : Int) + 1) (by unfold in32; omega)]
        have es := nst_succ_no q
        have := L_sortO (d := d) (n1 := n1) (Q := Q) s u N hN h8 r (k + 1) w (by omega) h36 h37 h40 (by rw [es]; exact h41) c
        rw [es] at this
        exact this
      · rename_i q
        have q : s (485 + 4 * k) = u := Decidable.not_not.mp q
        have es := nst_succ_yes q
        refine L_sortI s u k (nst s u k) (by omega) (by omega) ok.1 ok.2 (nst s u k).n w (Nat.le_refl _) (fun i hi => h40 i (by omega)) h41 (fun i h1 h2 => by exfalso; omega) rfl ?_
        intro f g hg
        have := L_sortO (d := d) (n1 := n1) (Q := Q) s u N hN h8 r (k + 1) (ubf (ubf w 41 f) 42 g) (by omega) h36 h37 h40 (by rw [es]; exact hg) (by
          intro f' g' hg'
          refine cw_ (c f' g' hg') ?_
          (funext c i; simp (decide := true) only [ub_ap, ubf_ap, up1_ap, ↓reduceIte]; (repeat' split) <;> first | rfl | omega | (simp_all; done) | (subst_vars; simp_all; done)))
        rw [es] at this
        exact this
theorem S_bookSort {d : Nat} {Q : MV → Wd → Prop} {w : Wd} (s : Nat → Int) (u : Int) (N : Nat) (hN : N ≤ 40) (h8 : cntN s u N ≤ 8) (h36 : w 36 0 = N) (h37 : ∀ i, i < N → w 37 i = s (485 + 4 * i)) (h40 : ∀ i, i < N → w 40 i = s (488 + 4 * i))
    (c : ∀ f g : Nat → Int, (∀ i, i < (nst s u N).n → f i = (nst s u N).of ((nst s u N).so i) ∧ g i = (nst s u N).so i) → Q (mI ((nst s u N).n : Nat)) (ubf (ubf w 41 f) 42 g)) : Cw (d + 1) 161 [mR 36, mI u] w Q := by
  apply Book_sort_36_en
  intro n1
  exact L_sortO s u N hN h8 N 0 w (by omega) h36 h37 h40 (fun i hi => absurd hi (Nat.not_lt_zero _)) c
