theorem wantM_zero (s : Nat → Int) : ∀ n : Nat, wantM s 0 n = 0
  | 0 => rfl
  | v + 1 => by
    show (if (0 : Nat).testBit (s (109 + 4 * v)).toNat = true then wantM s 0 v ||| 2 ^ v else wantM s 0 v) = 0
    rw [Nat.zero_testBit, if_neg (by decide)]
    exact wantM_zero s v
theorem livP_zero (s : Nat → Int) : ¬ livP s 0 := fun h => h.1 (wantM_zero s _)
theorem pop_zero {P S : Nat} (hP : P ≤ 8) (h : S < 2 ^ P) (hp : pop S = 0) : S = 0 := by
  rw [pop_cnt (k := P) (by omega) h] at hp
  refine Nat.eq_of_testBit_eq (fun i => ?_)
  rw [Nat.zero_testBit]
  cases y : S.testBit i
  · rfl
  · have := cntB_back (p := fun _ => false) (q := S.testBit) (n := P) (fun _ _ q => by cases q) (by omega) i (tbit_lt h y) y
    cases this
/-- the trial meeting of live, between two sets -/
def StL (w w1 : Wd) : Prop := (Fr [113, 114, 115, 116, 117, 118, 119, 120, 121, 122, 123, 124, 125, 126, 127, 128, 129] w w1) ∧ (w1 113 2 = -1) ∧ (RV (w1 4) (w1 5) (w1 6) (w1 7) (w1 8) (w1 9) (w1 10) (w1 11) (w1 12) (w1 13) (w1 14) (w1 15) (w 146) (w 149)) ∧ (CtT (w1 4) (w1 7) (up1 (w1 114) 6 (-1)) (w1 115) (w1 116) (w1 117) (-1) (TmS (w 146)))
theorem StL.mk {w w1 : Wd} (fr_ : Fr [113, 114, 115, 116, 117, 118, 119, 120, 121, 122, 123, 124, 125, 126, 127, 128, 129] w w1) (at1_ : w1 113 2 = -1) (rv_ : RV (w1 4) (w1 5) (w1 6) (w1 7) (w1 8) (w1 9) (w1 10) (w1 11) (w1 12) (w1 13) (w1 14) (w1 15) (w 146) (w 149)) (ct_ : CtT (w1 4) (w1 7) (up1 (w1 114) 6 (-1)) (w1 115) (w1 116) (w1 117) (-1) (TmS (w 146))) : StL w w1 := And.intro fr_ (And.intro at1_ (And.intro rv_ (ct_)))
theorem StL.fr {w w1 : Wd} (h_ : StL w w1) : Fr [113, 114, 115, 116, 117, 118, 119, 120, 121, 122, 123, 124, 125, 126, 127, 128, 129] w w1 := h_.1
theorem StL.at1 {w w1 : Wd} (h_ : StL w w1) : w1 113 2 = -1 := h_.2.1
theorem StL.rv {w w1 : Wd} (h_ : StL w w1) : RV (w1 4) (w1 5) (w1 6) (w1 7) (w1 8) (w1 9) (w1 10) (w1 11) (w1 12) (w1 13) (w1 14) (w1 15) (w 146) (w 149) := h_.2.2.1
theorem StL.ct {w w1 : Wd} (h_ : StL w w1) : CtT (w1 4) (w1 7) (up1 (w1 114) 6 (-1)) (w1 115) (w1 116) (w1 117) (-1) (TmS (w 146)) := h_.2.2.2
theorem S_livesBy {d : Nat} {Q : MV → Wd → Prop} {w w1 : Wd} (ws : WS (w 146)) (S : Nat) (hS : S < 256) (st : StL w w1) (k1 : ∀ w2, StL w w2 → livP (w 146) S → Q (mI 1) w2) (k0 : ∀ w2, StL w w2 → ¬ livP (w 146) S → Q (mI 0) w2) : Cw (d + 29) 152 [mR 0, mR 112, mI (S : Int)] w1 Q := by
  have un := ws.un
  have wa := ws.wa
  have W8 : (w 146 3).toNat ≤ 8 := by omega
  have ww : w 146 3 = ((w 146 3).toNat : Int) := by omega
  have lt := wantM_lt (w 146) S (w 146 3).toNat
  have p8 := pw8 W8
  apply X_livesBy_0_112_en
  refine S_wantsOf (d := d + 26) ws (w 146 3).toNat W8 (by rw [st.rv.wants]; exact ww) ww st.rv.want S hS ?_
  refine ⟨_, rfl, fun nz => ?_, fun z => k0 _ st (fun q => q.1 (Int.ofNat_inj.mp (Classical.not_not.mp z)))⟩
  refine S_find_112 (d := d + 13) (w := ub w1 114 6 (S : Int)) st.rv ws (TmB_L (TmB_told ws) S) st.at1 (CtT_L hS st.ct) ?_
  intro w2 hF h93 hf
  have e4 : w2 4 11 = w 146 3 := by
    rw [hF 4 (by decide)]
    show w1 4 11 = _
    exact st.rv.wants
  refine S_most_112 (d := d + 26) (w := w2) ws e4 hf ?_
  intro v gg hv hm
  have em := liv_most ws hm
  have ss : StL w (ubf w2 129 gg) := by
    refine ⟨?_, ?_, ?_, ?_⟩
    · exact Fr.ubf (Fr.tr (Fr.ub st.fr (by decide)) hF (by decide)) (by decide)
    · show w2 113 2 = -1
      rw [h93 2 (by decide) (by decide) (by decide) (by decide)]
      exact st.at1
    · have f : ∀ c, c ∉ cFt → c ≠ 114 → c ≠ 129 → (ubf w2 129 gg) c = w1 c := fun c hc h1 h3 => by
        funext i
        rw [ubf_ap, if_neg h3, hF c hc, ub_ap, if_neg h1]
      rw [f 4 (by decide) (by decide) (by decide), f 5 (by decide) (by decide) (by decide), f 6 (by decide) (by decide) (by decide), f 7 (by decide) (by decide) (by decide), f 8 (by decide) (by decide) (by decide), f 9 (by decide) (by decide) (by decide), f 10 (by decide) (by decide) (by decide), f 11 (by decide) (by decide) (by decide), f 12 (by decide) (by decide) (by decide), f 13 (by decide) (by decide) (by decide), f 14 (by decide) (by decide) (by decide), f 15 (by decide) (by decide) (by decide)]
      exact st.rv
    · have c4 : w2 4 = w1 4 := hF 4 (by decide)
      have c7 : w2 7 = w1 7 := hF 7 (by decide)
      have c14 : w2 114 = up1 (w1 114) 6 ((S : Int)) := hF 114 (by decide)
      have c15 : w2 115 = w1 115 := hF 115 (by decide)
      have c16 : w2 116 = w1 116 := hF 116 (by decide)
      have c17 : w2 117 = w1 117 := hF 117 (by decide)
      have e14 : up1 (up1 (w1 114) 6 (S : Int)) 6 (-1) = up1 (w1 114) 6 (-1) := by
        funext i
        rw [up1_ap, up1_ap, up1_ap]
        by_cases y : i = 6
        · rw [if_pos y, if_pos y]
        · rw [if_neg y, if_neg y, if_neg y]
      show CtT (w2 4) (w2 7) (up1 (w2 114) 6 (-1)) (w2 115) (w2 116) (w2 117) (-1) (TmS (w 146))
      rw [c4, c7, c14, c15, c16, c17, e14]
      exact st.ct
  refine ⟨_, rfl, ?_⟩
  refine S_bitCount (d := d + 27) (wantM (w 146) S (w 146 3).toNat) rfl (by omega) ?_
  refine ⟨_, rfl, fun z => k0 _ ss (fun y => ?_), fun z => k1 _ ss ⟨fun y => nz (by rw [y]; rfl), ?_⟩⟩
  · exact z (by rw [em.mpr y.2])
  · exact em.mp (Int.ofNat_inj.mp (Classical.not_not.mp z))
theorem L_live12 {d : Nat} {n1 : Int} {Q : MV → Wd → Prop} {w : Wd} (ws : WS (w 146)) (P : Nat) (hP : P ≤ 8) (e0 : w 4 0 = P) (z : Nat) (hz : z ≤ P) (h0 : ∀ S, S < 2 ^ P → livP (w 146) S → z ≤ pop S)
    (k1 : ∀ R w1, StL w w1 → LeastS (fun S => livP (w 146) S) (2 ^ P) R → Q (mI R) w1)
    (k0 : (∀ S, S < 2 ^ P → livP (w 146) S → z + 1 ≤ pop S) → ∀ w1, StL w w1 → Wp (Cw (d + 29)) cd_X_live (1, 0, n1) Q 5 [mR 0, mR 112, mI ((z + 1 : Nat) : Int), none] [] w1) :
    ∀ (m S : Nat) (w1 : Wd), S + m = 2 ^ P → StL w w1 → (∀ S', S' < S → livP (w 146) S' → z + 1 ≤ pop S') → Wp (Cw (d + 29)) cd_X_live (1, 0, n1) Q 12 [mR 0, mR 112, mI z, mI S] [] w1 := by
  have p8 := pw8 hP
  intro m
  induction m with
  | zero =>
    intro S w1 hS ms hh
    have hS : S = 2 ^ P := by omega
    subst hS
    have e1 : w1 4 0 = P := by rw [ms.fr 4 (by decide)]; exact e0
    apply X_live_0_c12
    rw [e1, ishl1 (by omega), w_succ (by omega)]
    exact ⟨fun _ => k0 hh w1 ms, fun y => absurd (Int.le_refl _) y⟩
  | succ m ih =>
    intro S w1 hS ms hh
    have S8 : S < 256 := by omega
    have S2 : S < 2 ^ P := by omega
    have sm : S + 1 + m = 2 ^ P := by omega
    have e1 : w1 4 0 = P := by rw [ms.fr 4 (by decide)]; exact e0
    have nb : ¬ ((2 ^ P : Nat) : Int) ≤ (S : Int) := by omega
    have e2 : w32 ((S : Int) + 1) = ((S + 1 : Nat) : Int) := by rw [w32_id (by unfold in32; omega)]; omega
    apply X_live_0_c12
    rw [e1, ishl1 (by clear e2; omega), e2]
    clear e2
    refine ⟨fun y => absurd y nb, fun _ => ?_⟩
    refine S_bitCount (d := d + 28) S rfl (by omega) ?_
    refine ⟨_, rfl, fun y => ?_, fun y => ?_⟩
    · refine ih (S + 1) w1 sm ms (fun S' h1 h2 => ?_)
      by_cases q : S' = S
      · subst q
        have := h0 S' S2 h2
        have : pop S' ≠ z := fun q => y (by rw [q])
        omega
      · exact hh S' (by omega) h2
    · have yz : pop S = z := Int.ofNat_inj.mp (Classical.not_not.mp y)
      refine S_livesBy (d := d) ws S S8 ms (fun w2 ms2 hm => ?_) (fun w2 ms2 hm => ?_)
      · refine ⟨_, rfl, fun q => absurd q (by decide), fun _ => ?_⟩
        refine k1 S w2 ms2 ⟨S2, hm, fun S' h1 h2 => ?_⟩
        have := h0 S' h1 h2
        by_cases q : pop S' = z
        · right
          refine ⟨by omega, ?_⟩
          by_cases q2 : S' < S
          · have := hh S' q2 h2; omega
          · omega
        · left; omega
      · refine ⟨_, rfl, fun _ => ?_, fun q => absurd rfl q⟩
        refine ih (S + 1) w2 sm ms2 (fun S' h1 h2 => ?_)
        by_cases q : S' = S
        · subst q; exact absurd h2 hm
        · exact hh S' (by omega) h2
theorem L_live5 {d : Nat} {n1 : Int} {Q : MV → Wd → Prop} {w : Wd} (ws : WS (w 146)) (P : Nat) (hP : P ≤ 8) (e0 : w 4 0 = P) (hz0 : ¬ livP (w 146) 0)
    (k1 : ∀ R w1, StL w w1 → LeastS (fun S => livP (w 146) S) (2 ^ P) R → Q (mI R) w1) (kn : ∀ w1, StL w w1 → (∀ S, S < 2 ^ P → ¬ livP (w 146) S) → Q (mI 0) w1) :
    ∀ (m z : Nat) (w1 : Wd), z + m = P + 1 → StL w w1 → (∀ S, S < 2 ^ P → livP (w 146) S → z ≤ pop S) → Wp (Cw (d + 29)) cd_X_live (1, 0, n1) Q 5 [mR 0, mR 112, mI z, none] [] w1 := by
  have p0 := Nat.two_pow_pos P
  intro m
  induction m with
  | zero =>
    intro z w1 hz ms hh
    have e1 : w1 4 0 = P := by rw [ms.fr 4 (by decide)]; exact e0
    apply X_live_0_c5
    refine ⟨fun _ => kn w1 ms (fun S a b => ?_), fun y => absurd ?_ y⟩
    · have := hh S a b
      have := pop_leP hP a
      omega
    · rw [e1]; omega
  | succ m ih =>
    intro z w1 hz ms hh
    have e1 : w1 4 0 = P := by rw [ms.fr 4 (by decide)]; exact e0
    apply X_live_0_c5
    refine ⟨fun y => absurd y (by rw [e1]; omega), fun _ => ?_⟩
    exact L_live12 ws P hP e0 z (by omega) hh k1 (fun h2 w2 ms2 => ih (z + 1) w2 (by omega) ms2 h2) (2 ^ P - 1) 1 w1 (by omega) ms (fun S' h q => by
      have : S' = 0 := by omega
      subst this
      exact absurd q hz0)
