theorem t_two {t : Int} (a : ¬ t = 0) (b : ¬ t = 1) (c : 0 ≤ t) (e : t ≤ 2) : t = 2 := by omega
theorem t_one {t : Int} (a : ¬ ¬ t = 1) : t = 1 := by omega
theorem t_zero {t : Int} (a : ¬ ¬ t = 0) : t = 0 := by omega
theorem t_n01 {t : Int} (a : t = 0) (b : t = 1) : False := by omega
theorem t_n02 {t : Int} (a : t = 0) (b : t = 2) : False := by omega
theorem t_n12 {t : Int} (a : t = 1) (b : t = 2) : False := by omega
theorem S_otherRef {d : Nat} {w w3 : Wd} (h : Inv w) (n b : Nat) (t : Int) (n2 : 2 ≤ n) (n6 : n ≤ 6) (b3 : b ≤ 3) (t0 : 0 ≤ t) (t2 : t ≤ 2) (fr3 : Fr ([113] ++ scrR) w w3) (i113 : w3 113 2 = -1) (i144 : w3 144 = w 144) {top : Int} (ht : IsMax (w 146 3).toNat (adjP (woS (w 146)) (adjS (TmO (w 146) n b) (w 146)) (coS (TmO (w 146) n b) (w 146))) (cL (netD (woS (w 146)) (coS (TmO (w 146) n b) (w 146)))) (w 146 2).toNat top) {fd : Nat → Nat} (v8 : ∀ v, v < 8 → top / (32 ^ (7 - v)) % 32 = fd v) (val : Int)
    (x0 : t = 0 → ∃ vn : Nat, val = vn ∧ IsMost (w 146 3).toNat (adjS (TmO (w 146) n b) (w 146)) (w 146 2).toNat vn) (x1 : t = 1 → val = top / 17592186044416) (x2 : t = 2 → val = sumZ 8 (painS (paS (TmO (w 146) n b) (w 146)) fd)) : Cw (d + 30) 268 [mR 144, mI (n : Int), mI (b : Int), mI t] w3 (Post w val) := by
  have m1 : ¬ (n : Int) < 2 := by clear x0 x1 x2 v8 ht; omega
  have m2 : ¬ 6 < (n : Int) := by clear x0 x1 x2 v8 ht; omega
  have m3 : ¬ (b : Int) < 0 := by clear x0 x1 x2 v8 ht; omega
  have m4 : ¬ 3 < (b : Int) := by clear x0 x1 x2 v8 ht; omega
  have m5 : ¬ t < 0 := by clear x0 x1 x2 v8 ht; omega
  have m6 : ¬ 2 < t := by clear x0 x1 x2 v8 ht; omega
  apply M_other_144_en
  refine ⟨fun z => absurd z m1, fun _ => ⟨fun z => absurd z m2, fun _ => ⟨fun z => absurd z m3, fun _ => ⟨fun z => absurd z m4, fun _ => ⟨fun z => absurd z m5, fun _ => ⟨fun z => absurd z m6, fun _ => ?_⟩⟩⟩⟩⟩⟩
  refine S_otherRef0 (d := d) h n b n2 n6 b3 fr3 i113 i144 ?_
  intro w5 tr
  refine ⟨fun za => ?_, fun za => ?_⟩
  · refine tr.day (d := d + 27) h ht v8 ?_
    intro w6 hI k1 k0 s7 s8 s9
    refine ⟨fun zb => ?_, fun zb => ?_⟩
    · exact Post.k (by rw [s9, x2 (t_two za zb t0 t2)]) hI k1 k0
    · exact Post.k (by rw [s7, x1 (t_one zb)]) hI k1 k0
  · obtain ⟨vn, y1, y2⟩ := x0 (t_zero za)
    refine tr.most (d := d + 26) h y2 ?_
    intro g hI
    refine ⟨_, rfl, Post.k y1.symm hI ?_ ?_⟩
    · show w5 401 = _
      exact tr.fr 401 (by decide)
    · show w5 400 = _
      exact tr.fr 400 (by decide)
/-- the trial meeting, started -/
def TrC (w w1 : Wd) : Prop := (Fr [114, 115, 116, 117] w w1) ∧ (RV (w1 4) (w1 5) (w1 6) (w1 7) (w1 8) (w1 9) (w1 10) (w1 11) (w1 12) (w1 13) (w1 14) (w1 15) (w 146) (w 149)) ∧ (CtT (w1 4) (w1 7) (w1 114) (w1 115) (w1 116) (w1 117) (-1) (TmS (w 146))) ∧ (w1 114 7 = -1) ∧ (w1 114 6 = -1)
theorem TrC.mk {w w1 : Wd} (fr_ : Fr [114, 115, 116, 117] w w1) (rv_ : RV (w1 4) (w1 5) (w1 6) (w1 7) (w1 8) (w1 9) (w1 10) (w1 11) (w1 12) (w1 13) (w1 14) (w1 15) (w 146) (w 149)) (ct_ : CtT (w1 4) (w1 7) (w1 114) (w1 115) (w1 116) (w1 117) (-1) (TmS (w 146))) (t7_ : w1 114 7 = -1) (t6_ : w1 114 6 = -1) : TrC w w1 := And.intro fr_ (And.intro rv_ (And.intro ct_ (And.intro t7_ (t6_))))
theorem TrC.fr {w w1 : Wd} (h_ : TrC w w1) : Fr [114, 115, 116, 117] w w1 := h_.1
theorem TrC.rv {w w1 : Wd} (h_ : TrC w w1) : RV (w1 4) (w1 5) (w1 6) (w1 7) (w1 8) (w1 9) (w1 10) (w1 11) (w1 12) (w1 13) (w1 14) (w1 15) (w 146) (w 149) := h_.2.1
theorem TrC.ct {w w1 : Wd} (h_ : TrC w w1) : CtT (w1 4) (w1 7) (w1 114) (w1 115) (w1 116) (w1 117) (-1) (TmS (w 146)) := h_.2.2.1
theorem TrC.t7 {w w1 : Wd} (h_ : TrC w w1) : w1 114 7 = -1 := h_.2.2.2.1
theorem TrC.t6 {w w1 : Wd} (h_ : TrC w w1) : w1 114 6 = -1 := h_.2.2.2.2
theorem S_try {d : Nat} {P : Wd → Prop} {w : Wd} (h : Inv w) (k : ∀ w1, TrC w w1 → P w1) : Cw (d + 3) 117 [mR 0] w (fun r v => r = mR 112 ∧ P v) := by
  refine S_supposing (d := d) ?_
  intro w1 hF1 a1 a2 a3 a4 a5 a6 a7
  have f : ∀ c, c ∉ [114, 115, 116, 117] → w1 c = w c := fun c hc => hF1 c hc
  have rv1 : RV (w1 4) (w1 5) (w1 6) (w1 7) (w1 8) (w1 9) (w1 10) (w1 11) (w1 12) (w1 13) (w1 14) (w1 15) (w 146) (w 149) := by
    rw [f 4 (by decide), f 5 (by decide), f 6 (by decide), f 7 (by decide), f 8 (by decide), f 9 (by decide), f 10 (by decide), f 11 (by decide), f 12 (by decide), f 13 (by decide), f 14 (by decide), f 15 (by decide)]
    exact h.rv
  refine k w1 ⟨hF1, rv1, ?_, a4, a3⟩
  refine CtT_told h.ws rv1 ?_ ?_ a3 a4 ?_ ?_ ?_
  · rw [a1, h.rv.n]
  · rw [a2, h.rv.back]
  · intro i hi; rw [a5 i hi, f 8 (by decide)]
  · intro i hi; rw [a6 i hi, f 14 (by decide)]
  · intro i hi; rw [a7 i hi, f 15 (by decide)]
