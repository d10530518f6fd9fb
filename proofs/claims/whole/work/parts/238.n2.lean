theorem nst_succ_yes {s : Nat → Int} {u : Int} {k : Nat} (h : s (485 + 4 * k) = u) : nst s u (k + 1) = nins (nst s u k) (fpos s (nst s u k).so (nst s u k).of (s (488 + 4 * k)) (nst s u k).n) k := by
  show (if s (485 + 4 * k) = u then _ else _) = _
  rw [if_pos h]
theorem nst_succ_no {s : Nat → Int} {u : Int} {k : Nat} (h : ¬ s (485 + 4 * k) = u) : nst s u (k + 1) = nst s u k := by
  show (if s (485 + 4 * k) = u then _ else _) = _
  rw [if_neg h]
theorem L_notesO {d : Nat} {n1 : Int} {Q : MV → Wd → Prop} (s : Nat → Int) (u : Int) (N : Nat) (hN : N ≤ 40) (hs4 : s 484 = N) (h8 : cntN s u N ≤ 8) :
    ∀ (r k : Nat) (w : Wd), k + r = N → w 146 = s → w 144 75 = (nst s u k).n → (∀ r, r < (nst s u k).n → w 180 r = 485 + 4 * (nst s u k).of r) → (∀ i, i < (nst s u k).n → w 181 i = (nst s u k).so i) →
      (∀ f g : Nat → Int, (∀ r, r < (nst s u N).n → f r = 485 + 4 * (nst s u N).of r) → (∀ i, i < (nst s u N).n → g i = (nst s u N).so i) → Q none (ub (ubf (ubf w 180 f) 181 g) 144 75 (nst s u N).n)) →
      Wp (Cw (d + 0)) cd_M_notesOf (0, 0, n1) Q 5 [mR 144, mI u, mI k, none] [] w
  | 0, k, w, hk, hs, h75, h180, h181, c => by
    have : k = N := by omega
    subst this
    apply M_notesOf_144_c5
    (repeat' (apply spl <;> intro))
    · have c1 := c (w 180) (w 181) h180 h181
      rw [← h75] at c1
      refine cw_ c1 ?_
      (funext c i; simp (decide := true) only [ub_ap, ubf_ap, up1_ap, ↓reduceIte]; (repeat' split) <;> first | rfl | omega | (simp_all; done) | (subst_vars; simp_all; done))
    · exfalso
      rename_i q
      apply q
      show w 146 484 ≤ (k : Int)
      rw [hs, hs4]; omega
  | r + 1, k, w, hk, hs, h75, h180, h181, c => by
    have ok := nst_ok s u k
    have nn := nst_n s u k
    have i0 : (485 + 4 * (k : Int)).toNat = 485 + 4 * k := by omega
    apply M_notesOf_144_c5
    (repeat' (apply spl <;> intro))
    · exfalso
      rename_i q
      have q : w 146 484 ≤ (k : Int) := q
      rw [hs, hs4] at q
      omega
    · rw [w32_id (x := 4 * (k : Int)) (by unfold in32; omega), w32_id (x := 485 + 4 * (k : Int)) (by unfold in32; omega), i0, hs]
      (refine And.intro (by omega) ?_)
      (repeat' (apply spl <;> intro))
      · rename_i q
        have m1 := cntN_mono s u (show k + 1 ≤ N by omega)
        have m2 : cntN s u (k + 1) = cntN s u k + 1 := by
          show cntN s u k + (if s (485 + 4 * k) = u then 1 else 0) = _
          rw [if_pos q]
        rw [h75]
        (refine And.intro (by omega) ?_)
        rw [Int.toNat_natCast]
        refine L_notesI s u k (nst s u k) (by omega) (by omega) ok.1 (fun r hr => by have := ok.2 r hr; omega) (nst s u k).n _ (Nat.le_refl _) hs h75 ?_ ?_ ?_ rfl ?_
        · intro r' hr
          show up1 (w 180) _ _ r' = _
          rw [up1_ap, if_neg (by omega)]; exact h180 r' hr
        · exact h181
        · intro i h1 h2; exfalso; omega
        · intro g hg
          have es := nst_succ_yes q
          refine L_notesO s u N hN hs4 h8 r (k + 1) _ (by omega) hs ?_ ?_ ?_ ?_
          · rw [es]; show ((nst s u k).n : Int) + 1 = (((nst s u k).n + 1 : Nat) : Int); omega
          · rw [es]
            intro r' hr
            have hr : r' < (nst s u k).n + 1 := hr
            show up1 (w 180) (nst s u k).n _ r' = 485 + 4 * ((if r' = (nst s u k).n then k else (nst s u k).of r' : Nat) : Int)
            rw [up1_ap]
            by_cases q1 : r' = (nst s u k).n
            · rw [if_pos q1, if_pos q1]
            · rw [if_neg q1, if_neg q1, h180 r' (by omega)]
          · rw [es]; exact hg
          · intro f' g' hf' hg'
            refine cw_ (c f' g' hf' hg') ?_
            (funext c i; simp (decide := true) only [ub_ap, ubf_ap, up1_ap, ↓reduceIte]; (repeat' split) <;> first | rfl | omega | (simp_all; done) | (subst_vars; simp_all; done))
      · rename_i q
        rw [w32_id (x := (k : Int) + 1) (by unfold in32; omega)]
        have es := nst_succ_no q
        refine L_notesO s u N hN hs4 h8 r (k + 1) _ (by omega) hs ?_ ?_ ?_ c
        · rw [es]; exact h75
        · rw [es]; exact h180
        · rw [es]; exact h181
theorem S_notesOf {d : Nat} {Q : MV → Wd → Prop} {w : Wd} (u : Int) (N : Nat) (hN : N ≤ 40) (hs4 : w 146 484 = N) (h8 : cntN (w 146) u N ≤ 8)
    (c : ∀ f g : Nat → Int, (∀ r, r < (nst (w 146) u N).n → f r = 485 + 4 * (nst (w 146) u N).of r) → (∀ i, i < (nst (w 146) u N).n → g i = (nst (w 146) u N).so i) → Q none (ub (ubf (ubf w 180 f) 181 g) 144 75 (cntN (w 146) u N))) : Cw (d + 1) 270 [mR 144, mI u] w Q := by
  apply M_notesOf_144_en
  intro n1
  refine L_notesO (w 146) u N hN hs4 h8 N 0 _ (by omega) rfl rfl (fun r hr => absurd hr (Nat.not_lt_zero _)) (fun r hr => absurd hr (Nat.not_lt_zero _)) ?_
  intro f g hf hg
  have c1 := c f g hf hg
  rw [← nst_n] at c1
  refine cw_ c1 ?_
  (funext c i; simp (decide := true) only [ub_ap, ubf_ap, up1_ap, ↓reduceIte]; (repeat' split) <;> first | rfl | omega | (simp_all; done) | (subst_vars; simp_all; done))
