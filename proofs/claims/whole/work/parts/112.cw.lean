
/-! calls by depth; the methods' contracts out of the small machine -/
def tokL : List Int := [16998, 411, 33850, 385418, 6936589, 459818, 12253591, 79, 3913426, 8798, 1132, 3379448, 305537, 10941229, 144941, 15827, 453701]
def tokF : Nat → Int := fun j => if j < 17 then nthA 0 tokL j else 0
def tokW (w : Wd) : Wd := ub (ub (ubf (mkNew w) 3 tokF) 2 1 1) 2 0 1
def extTok (argv : List MV) (w : Wd) (Q : MV → Wd → Prop) : Prop := argv = [mR 2, mR 1] ∧ w 401 0 = 3 ∧ Q none (tokW w)
def extG (ok : Prop) (v : Int) (w : Wd) (Q : MV → Wd → Prop) : Prop := w 401 1 < 512 ∧ (ok → Q (mI 0) (ub (ub w 185 0 v) 401 1 (w 401 1 + 1))) ∧ (¬ ok → Q (mI 1) (ub w 401 1 (w 401 1 + 1)))
def extUnit (argv : List MV) (w : Wd) (Q : MV → Wd → Prop) : Prop := ∃ u what, argv = [mR 0, mI u, mI what, mR 185] ∧ (0 ≤ w 4 8 ∧ w 4 8 ≤ 16) ∧ extG (((0 ≤ u ∧ u < w 4 8) ∧ 0 ≤ what) ∧ what < 5) (w 11 (u * 5 + what).toNat) w Q
def extWant (argv : List MV) (w : Wd) (Q : MV → Wd → Prop) : Prop := ∃ u what, argv = [mR 0, mI u, mI what, mR 185] ∧ (0 ≤ w 4 11 ∧ w 4 11 ≤ 8) ∧ extG (((0 ≤ u ∧ u < w 4 11) ∧ 0 ≤ what) ∧ what < 4) (w 13 (u * 4 + what).toNat) w Q
def extAct (argv : List MV) (w : Wd) (Q : MV → Wd → Prop) : Prop := ∃ i what, argv = [mR 0, mI i, mI what, mR 185] ∧ (0 ≤ w 28 0 ∧ w 28 0 ≤ 50) ∧ extG (((0 ≤ i ∧ i < w 28 0) ∧ 0 ≤ what) ∧ what < 3) (if what = 0 then w 29 i.toNat else if what = 1 then w 30 i.toNat else w 31 i.toNat) w Q
def extGain (argv : List MV) (w : Wd) (Q : MV → Wd → Prop) : Prop := ∃ i, argv = [mR 0, mI i, mR 185] ∧ (0 ≤ w 140 5 ∧ w 140 5 ≤ 8) ∧ extG (0 ≤ i ∧ i < w 140 5) (w 143 i.toNat) w Q
def Cw : Nat → CWt
  | 0 => fun _ _ _ _ => False
  | d + 1 => fun j argv w Q => if j = 1 then extTok argv w Q else if j = 279 then extUnit argv w Q else if j = 280 then extWant argv w Q else if j = 281 then extAct argv w Q else if j = 282 then extGain argv w Q
    else (fArgs argv).length ≤ mxM j ∧ Wp (Cw d) (cdM j) (rkM j, phM j, w 401 0 + (nAl j : Int)) (fun v w' => if phM j = 1 then w' 401 0 = w 401 0 + (nAl j : Int) ∧ Q v w' else Q v w') 0 (mkLoc (mxM j) argv) [] w
theorem extG_mono {ok : Prop} {v : Int} {w : Wd} {Q Q' : MV → Wd → Prop} (hQ : ∀ r w, Q r w → Q' r w) (h : extG ok v w Q) : extG ok v w Q' := ⟨h.1, fun q => hQ _ _ (h.2.1 q), fun q => hQ _ _ (h.2.2 q)⟩
theorem Cw_mono : ∀ (d j : Nat) (a : List MV) (w : Wd) (Q Q' : MV → Wd → Prop), (∀ r w, Q r w → Q' r w) → Cw d j a w Q → Cw d j a w Q'
  | 0, _, _, _, _, _, _, h => h
  | d + 1, j, a, w, Q, Q', hQ, h => by
    unfold Cw at h ⊢
    by_cases q1 : j = 1
    · rw [if_pos q1] at h ⊢; exact ⟨h.1, h.2.1, hQ _ _ h.2.2⟩
    · rw [if_neg q1] at h ⊢
      by_cases q2 : j = 279
      · rw [if_pos q2] at h ⊢; obtain ⟨u, x, h1, h2, h3⟩ := h; exact ⟨u, x, h1, h2, extG_mono hQ h3⟩
      · rw [if_neg q2] at h ⊢
        by_cases q3 : j = 280
        · rw [if_pos q3] at h ⊢; obtain ⟨u, x, h1, h2, h3⟩ := h; exact ⟨u, x, h1, h2, extG_mono hQ h3⟩
        · rw [if_neg q3] at h ⊢
          by_cases q4 : j = 281
          · rw [if_pos q4] at h ⊢; obtain ⟨u, x, h1, h2, h3⟩ := h; exact ⟨u, x, h1, h2, extG_mono hQ h3⟩
          · rw [if_neg q4] at h ⊢
            by_cases q5 : j = 282
            · rw [if_pos q5] at h ⊢; obtain ⟨u, h1, h2, h3⟩ := h; exact ⟨u, h1, h2, extG_mono hQ h3⟩
            · rw [if_neg q5] at h ⊢
              refine ⟨h.1, Wp.mono (fun j a w Q Q' => Cw_mono d j a w Q Q') (fun r w' hq => ?_) h.2⟩
              by_cases z : phM j = 1
              · rw [if_pos z] at hq ⊢; exact ⟨hq.1, hQ _ _ hq.2⟩
              · rw [if_neg z] at hq ⊢; exact hQ _ _ hq
/-- one step back, in a method -/
theorem Wp.s {d : Nat} {cd : List Ent} {pr : Pr} {Q : MV → Wd → Prop} {i : Nat} {l s : List MV} {w : Wd} (h : F (Cw d) cd pr Q (Wp (Cw d) cd pr Q) i l s w) : Wp (Cw d) cd pr Q i l s w := Wp.st (fun j a w Q Q' => Cw_mono d j a w Q Q') h
theorem Cw_in {d j : Nat} {argv : List MV} {w : Wd} {Q : MV → Wd → Prop} (hj : ¬ j = 1 ∧ j < 279) (hp : ¬ phM j = 1) (hlen : (fArgs argv).length ≤ mxM j) (h : ∀ n1, Wp (Cw d) (cdM j) (rkM j, phM j, n1) Q 0 (mkLoc (mxM j) argv) [] w) : Cw (d + 1) j argv w Q := by
  unfold Cw
  rw [if_neg hj.1, if_neg (by omega), if_neg (by omega), if_neg (by omega), if_neg (by omega)]
  refine ⟨hlen, Wp.mono (fun j a w Q Q' => Cw_mono d j a w Q Q') (fun r w' hq => ?_) (h _)⟩
  rw [if_neg hp]; exact hq
