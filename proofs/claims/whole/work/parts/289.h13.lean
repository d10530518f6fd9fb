/-- the fewest, then the smallest -/
def LeastS (p : Nat → Prop) (N R : Nat) : Prop := R < N ∧ p R ∧ ∀ S, S < N → p S → pop R < pop S ∨ (pop R = pop S ∧ R ≤ S)
theorem LeastS.uniq {p : Nat → Prop} {N R R' : Nat} (h : LeastS p N R) (h' : LeastS p N R') : R = R' := by
  have a := h.2.2 R' h'.1 h'.2.1
  have b := h'.2.2 R h.1 h.2.1
  omega
theorem pop_leP {P S : Nat} (hP : P ≤ 8) (h : S < 2 ^ P) : pop S ≤ P := by
  rw [pop_cnt (k := P) (by omega) h]
  exact cntB_le _ P
/-- some give nothing -/
def TmX (s : Nat → Int) (S : Nat) : Tm := ⟨(TmS s).n, (TmS s).back, (TmS s).P, fun p q => (TmS s).gv p q && !(S.testBit p), (TmS s).pn, (TmS s).hr, (TmS s).ak, (TmS s).ha, (TmS s).tw⟩
theorem TmX_gv {s : Nat → Int} {S p q : Nat} : (TmX s S).gv p q = true ↔ (TmS s).gv p q = true ∧ S.testBit p = false := by
  show ((TmS s).gv p q && !(S.testBit p)) = true ↔ _
  rw [Bool.and_eq_true]
  cases S.testBit p <;> simp
theorem TmB_X {s : Nat → Int} (hb0 : TmB (TmS s)) (S : Nat) : TmB (TmX s S) := (TmB.mk (hb0.P8) (hb0.n2) (hb0.n6) (hb0.hr9) (hb0.pn9) (hb0.ak9) (fun p => by
  show ((TmS s).gv p p && _) = false
  rw [hb0.gvi p]; rfl))
theorem CtT_X {vo mt tm ak pn hr s : Nat → Int} {wt : Int} {S : Nat} (hS : S < 256) (h : CtT vo mt (up1 tm 7 (-1)) ak pn hr wt (TmS s)) : CtT vo mt (up1 tm 7 (ixor (S : Int) (-1))) ak pn hr wt (TmX s S) := by
  have P8 := h.P8
  refine (CtT.mk (h.P) (h.P8) ?_ (h.n2) (h.n6) ?_ (h.back3) (fun q hq => ?_) (fun p q hp hq => ?_) (fun p q hp hq hg => ?_) (h.ak) (h.mates) (h.pn9) (h.hr9) (h.ak9) (h.wt0))
  · have := h.n
    rw [up1_ap, if_neg (by decide)] at this ⊢
    exact this
  · have := h.back
    rw [up1_ap, if_neg (by decide)] at this ⊢
    exact this
  · have := h.hands q hq
    rw [up1_ap, if_neg (by decide)] at this ⊢
    exact this
  · have hp : p < (TmS s).P := hp
    have hq : q < (TmS s).P := hq
    have p32 : p < 32 := by omega
    have g := h.gv p q hp hq
    rw [up1_ap, if_pos rfl, tb_neg1, decide_eq_true p32] at g
    rw [TmX_gv, ← g, up1_ap, if_pos rfl, tb_not _ p32, tb_nat _ _ (by omega)]
    cases S.testBit p <;> simp
  · exact h.pn p q hp hq (TmX_gv.mp hg).1
/-- the trial meeting of stop, between two sets -/
def StS (w w1 : Wd) : Prop := (Fr [113, 114, 115, 116, 117, 118, 119, 120, 121, 122, 123, 124, 125, 126, 127, 128, 129] w w1) ∧ (w1 113 2 = -1) ∧ (RV (w1 4) (w1 5) (w1 6) (w1 7) (w1 8) (w1 9) (w1 10) (w1 11) (w1 12) (w1 13) (w1 14) (w1 15) (w 146) (w 149)) ∧ (CtT (w1 4) (w1 7) (up1 (w1 114) 7 (-1)) (w1 115) (w1 116) (w1 117) (-1) (TmS (w 146)))
theorem StS.mk {w w1 : Wd} (fr_ : Fr [113, 114, 115, 116, 117, 118, 119, 120, 121, 122, 123, 124, 125, 126, 127, 128, 129] w w1) (at1_ : w1 113 2 = -1) (rv_ : RV (w1 4) (w1 5) (w1 6) (w1 7) (w1 8) (w1 9) (w1 10) (w1 11) (w1 12) (w1 13) (w1 14) (w1 15) (w 146) (w 149)) (ct_ : CtT (w1 4) (w1 7) (up1 (w1 114) 7 (-1)) (w1 115) (w1 116) (w1 117) (-1) (TmS (w 146))) : StS w w1 := And.intro fr_ (And.intro at1_ (And.intro rv_ (ct_)))
theorem StS.fr {w w1 : Wd} (h_ : StS w w1) : Fr [113, 114, 115, 116, 117, 118, 119, 120, 121, 122, 123, 124, 125, 126, 127, 128, 129] w w1 := h_.1
theorem StS.at1 {w w1 : Wd} (h_ : StS w w1) : w1 113 2 = -1 := h_.2.1
theorem StS.rv {w w1 : Wd} (h_ : StS w w1) : RV (w1 4) (w1 5) (w1 6) (w1 7) (w1 8) (w1 9) (w1 10) (w1 11) (w1 12) (w1 13) (w1 14) (w1 15) (w 146) (w 149) := h_.2.2.1
theorem StS.ct {w w1 : Wd} (h_ : StS w w1) : CtT (w1 4) (w1 7) (up1 (w1 114) 7 (-1)) (w1 115) (w1 116) (w1 117) (-1) (TmS (w 146)) := h_.2.2.2
noncomputable def moX (s : Nat → Int) (S : Nat) : Nat := mostV (s 3).toNat (adjS (TmX s S) s) (s 2).toNat
theorem S_stopsBy {d : Nat} {Q : MV → Wd → Prop} {w w1 : Wd} (ws : WS (w 146)) (S : Nat) (hS : S < 256) (st : StS w w1) (k1 : ∀ w2, StS w w2 → moX (w 146) S = 0 → Q (mI 1) w2) (k0 : ∀ w2, StS w w2 → ¬ moX (w 146) S = 0 → Q (mI 0) w2) : Cw (d + 29) 155 [mR 0, mR 112, mI (S : Int)] w1 Q := by
  have un := ws.un
  have wa := ws.wa
  apply X_stopsBy_0_112_en
  refine S_find_112 (d := d + 13) (w := ub w1 114 7 (ixor (S : Int) (-1))) st.rv ws (TmB_X (TmB_told ws) S) st.at1 (CtT_X hS st.ct) ?_
  intro w2 hF h93 hf
  have e4 : w2 4 11 = w 146 3 := by
    rw [hF 4 (by decide)]
    show w1 4 11 = _
    exact st.rv.wants
  refine S_most_112 (d := d + 26) (w := w2) ws e4 hf ?_
  intro v gg hv hm
  have em : moX (w 146) S = v := mostV_eq hm
  have ss : StS w (ubf w2 129 gg) := by
    refine ⟨?_, ?_, ?_, ?_⟩
    · exact Fr.ubf (Fr.tr (Fr.ub st.fr (by decide)) hF (by decide)) (by decide)
    · show w2 113 2 = -1
      rw [h93 2 (by decide) (by decide) (by decide) (by decide)]
      exact st.at1
    · have f : ∀ c, c ∉ cFt → c ≠ 114 → c ≠ 129 → (ubf w2 129 gg) c = w1 c := fun c hc h1 h3 => by
        funext i
        rw [ubf_ap, if_neg h3, hF c hc, ub_ap, if_neg h1]
      rw [f 4 (by decide) (by decide) (by decide), f 5 (by decide) (by decide) (by decide), f 6 (by decide) (by decide) (by decide), f 7 (by decide) (by decide) (by decide), f 8 (by decide) (by decide) (by decide), f 9 (by decide) (by decide) (by decide), f 10 (by decide) (by decide) (by decide), f 11 (by decide) (by decide) (by decide), f 12 (by decide) (by decide) (by decide), f 13 (by decide) (by decide) (by decide), f 14 (by decide) (by decide) (by decide), f 15 (by decide) (by decide) (by decide)]
      exact st.rv
    · have c4 : w2 4 = w1 4 := hF 4 (by decide)
      have c7 : w2 7 = w1 7 := hF 7 (by decide)
      have c14 : w2 114 = up1 (w1 114) 7 (ixor (S : Int) (-1)) := hF 114 (by decide)
      have c15 : w2 115 = w1 115 := hF 115 (by decide)
      have c16 : w2 116 = w1 116 := hF 116 (by decide)
      have c17 : w2 117 = w1 117 := hF 117 (by decide)
      have e14 : up1 (up1 (w1 114) 7 (ixor (S : Int) (-1))) 7 (-1) = up1 (w1 114) 7 (-1) := by
        funext i
        rw [up1_ap, up1_ap, up1_ap]
        by_cases y : i = 7
        · rw [if_pos y, if_pos y]
        · rw [if_neg y, if_neg y, if_neg y]
      show CtT (w2 4) (w2 7) (up1 (w2 114) 7 (-1)) (w2 115) (w2 116) (w2 117) (-1) (TmS (w 146))
      rw [c4, c7, c14, c15, c16, c17, e14]
      exact st.ct
  refine ⟨_, rfl, fun z => k0 _ ss (fun y => ?_), fun z => k1 _ ss ?_⟩
  · rw [em] at y; subst y; exact z rfl
  · rw [em]; exact Int.ofNat_inj.mp (Classical.not_not.mp z)
theorem L_stop12 {d : Nat} {n1 : Int} {Q : MV → Wd → Prop} {w : Wd} (ws : WS (w 146)) (P : Nat) (hP : P ≤ 8) (e0 : w 4 0 = P) (z : Nat) (hz : z ≤ P) (h0 : ∀ S, S < 2 ^ P → moX (w 146) S = 0 → z ≤ pop S)
    (k1 : ∀ R w1, StS w w1 → LeastS (fun S => moX (w 146) S = 0) (2 ^ P) R → Q (mI R) w1)
    (k0 : (∀ S, S < 2 ^ P → moX (w 146) S = 0 → z + 1 ≤ pop S) → ∀ w1, StS w w1 → Wp (Cw (d + 29)) cd_X_stop (1, 0, n1) Q 5 [mR 0, mR 112, mI ((z + 1 : Nat) : Int), none] [] w1) :
    ∀ (m S : Nat) (w1 : Wd), S + m = 2 ^ P → StS w w1 → (∀ S', S' < S → moX (w 146) S' = 0 → z + 1 ≤ pop S') → Wp (Cw (d + 29)) cd_X_stop (1, 0, n1) Q 12 [mR 0, mR 112, mI z, mI S] [] w1 := by
  have p8 := pw8 hP
  intro m
  induction m with
  | zero =>
    intro S w1 hS ms hh
    have hS : S = 2 ^ P := by omega
    subst hS
    have e1 : w1 4 0 = P := by rw [ms.fr 4 (by decide)]; exact e0
    apply X_stop_0_c12
    rw [e1, ishl1 (by omega), w_succ (by omega)]
    exact ⟨fun _ => k0 hh w1 ms, fun y => absurd (Int.le_refl _) y⟩
  | succ m ih =>
    intro S w1 hS ms hh
    have S8 : S < 256 := by omega
    have S2 : S < 2 ^ P := by omega
    have sm : S + 1 + m = 2 ^ P := by omega
    have e1 : w1 4 0 = P := by rw [ms.fr 4 (by decide)]; exact e0
    have nb : ¬ ((2 ^ P : Nat) : Int) ≤ (S : Int) := by omega
    have e2 : w32 ((S : Int) + 1) = ((S + 1 : Nat) : Int) := by rw [w32_id (by unfold in32; omega)]; omega
    apply X_stop_0_c12
    rw [e1, ishl1 (by clear e2; omega), e2]
    clear e2
    refine ⟨fun y => absurd y nb, fun _ => ?_⟩
    refine S_bitCount (d := d + 28) S rfl (by omega) ?_
    refine ⟨_, rfl, fun y => ?_, fun y => ?_⟩
    · refine ih (S + 1) w1 sm ms (fun S' h1 h2 => ?_)
      by_cases q : S' = S
      · subst q
        have := h0 S' S2 h2
        have : pop S' ≠ z := fun q => y (by rw [q])
        omega
      · exact hh S' (by omega) h2
    · have yz : pop S = z := Int.ofNat_inj.mp (Classical.not_not.mp y)
      refine S_stopsBy (d := d) ws S S8 ms (fun w2 ms2 hm => ?_) (fun w2 ms2 hm => ?_)
      · refine ⟨_, rfl, fun q => absurd q (by decide), fun _ => ?_⟩
        refine k1 S w2 ms2 ⟨S2, hm, fun S' h1 h2 => ?_⟩
        have := h0 S' h1 h2
        by_cases q : pop S' = z
        · right
          refine ⟨by omega, ?_⟩
          by_cases q2 : S' < S
          · have := hh S' q2 h2; omega
          · omega
        · left; omega
      · refine ⟨_, rfl, fun _ => ?_, fun q => absurd rfl q⟩
        refine ih (S + 1) w2 sm ms2 (fun S' h1 h2 => ?_)
        by_cases q : S' = S
        · subst q; exact absurd h2 hm
        · exact hh S' (by omega) h2
theorem L_stop5 {d : Nat} {n1 : Int} {Q : MV → Wd → Prop} {w : Wd} (ws : WS (w 146)) (P : Nat) (hP : P ≤ 8) (e0 : w 4 0 = P) (hex : ∃ S, S < 2 ^ P ∧ moX (w 146) S = 0)
    (k1 : ∀ R w1, StS w w1 → LeastS (fun S => moX (w 146) S = 0) (2 ^ P) R → Q (mI R) w1) :
    ∀ (m z : Nat) (w1 : Wd), z + m = P + 1 → StS w w1 → (∀ S, S < 2 ^ P → moX (w 146) S = 0 → z ≤ pop S) → Wp (Cw (d + 29)) cd_X_stop (1, 0, n1) Q 5 [mR 0, mR 112, mI z, none] [] w1 := by
  intro m
  induction m with
  | zero =>
    intro z w1 hz ms hh
    exfalso
    obtain ⟨S, a, b⟩ := hex
    have := hh S a b
    have := pop_leP hP a
    omega
  | succ m ih =>
    intro z w1 hz ms hh
    have e1 : w1 4 0 = P := by rw [ms.fr 4 (by decide)]; exact e0
    apply X_stop_0_c5
    refine ⟨fun y => absurd y (by rw [e1]; omega), fun _ => ?_⟩
    exact L_stop12 ws P hP e0 z (by omega) hh k1 (fun h2 w2 ms2 => ih (z + 1) w2 (by omega) ms2 h2) (2 ^ P) 0 w1 (by omega) ms (fun S' h => absurd h (by omega))
