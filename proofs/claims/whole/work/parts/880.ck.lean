theorem ckAll : CkAll := by
  intro j hj hj1 i hi
  have h := ck_every hj hj1
  unfold ckJ chkR at h
  have := List.all_eq_true.mp h i (List.mem_range.mpr hi)
  simpa using this
theorem ck_law_all : ∀ i, i < cd_law.length → chkE "ThirdHandsLaw" "law" code 7 cd_law (nthA nE cd_law i) (pcOf cd_law (i + 1)) = true := by
  have hl : cd_law.length = 854 := by decide +kernel
  have g : ∀ (lo n : Nat), chkR "ThirdHandsLaw" "law" code 7 cd_law lo n = true → ∀ i, lo ≤ i → i < lo + n → chkE "ThirdHandsLaw" "law" code 7 cd_law (nthA nE cd_law i) (pcOf cd_law (i + 1)) = true := by
    intro lo n h i h1 h2
    have := List.all_eq_true.mp h (i - lo) (List.mem_range.mpr (by omega))
    rwa [show lo + (i - lo) = i by omega] at this
  intro i hi
  rw [hl] at hi
  by_cases q1 : i < 100
  · exact g 0 100 ck_law_0 i (by omega) (by omega)
  by_cases q2 : i < 200
  · exact g 100 100 ck_law_1 i (by omega) (by omega)
  by_cases q3 : i < 300
  · exact g 200 100 ck_law_2 i (by omega) (by omega)
  by_cases q4 : i < 400
  · exact g 300 100 ck_law_3 i (by omega) (by omega)
  by_cases q5 : i < 500
  · exact g 400 100 ck_law_4 i (by omega) (by omega)
  by_cases q6 : i < 600
  · exact g 500 100 ck_law_5 i (by omega) (by omega)
  by_cases q7 : i < 700
  · exact g 600 100 ck_law_6 i (by omega) (by omega)
  by_cases q8 : i < 800
  · exact g 700 100 ck_law_7 i (by omega) (by omega)
  · exact g 800 54 ck_law_8 i (by omega) (by omega)
