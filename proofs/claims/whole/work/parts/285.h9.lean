theorem greatest {P : Nat → Prop} {W : Nat} (h : ∀ v, P v → v ≤ W) : ∀ (m v : Nat), P v → W ≤ v + m → ∃ g, P g ∧ ∀ v', P v' → v' ≤ g
  | 0, v, hv, hm => ⟨v, hv, fun v' h' => by have := h v' h'; omega⟩
  | m + 1, v, hv, hm => by
    by_cases z : ∃ v', v < v' ∧ P v'
    · obtain ⟨v', a, b⟩ := z
      exact greatest h m v' b (by omega)
    · refine ⟨v, hv, fun v' h' => ?_⟩
      by_cases y : v' ≤ v
      · exact y
      · exact absurd ⟨v', by omega, h'⟩ z
theorem mat_none {W : Nat} {adj : Nat → Nat → Bool} : ∀ U : Nat, mat W adj U (fun _ => false)
  | 0 => fun _ => rfl
  | k + 1 => Or.inl (mat_none k)
theorem most_ex (W : Nat) (adj : Nat → Nat → Bool) (U : Nat) : ∃ v, IsMost W adj U v := by
  obtain ⟨g, ⟨X, a, b⟩, c⟩ := greatest (P := fun v => ∃ X, mat W adj U X ∧ cntB W X = v) (W := W) (fun v hv => by
    obtain ⟨X, _, b⟩ := hv
    have := cntB_le X W
    omega) W (cntB W (fun _ => false)) ⟨_, mat_none U, rfl⟩ (by omega)
  exact ⟨g, fun Y hY => c _ ⟨Y, hY, rfl⟩, X, a, b⟩
theorem moM_le (s : Nat → Int) (a b : Nat) : moM s a b ≤ (s 3).toNat := (Classical.epsilon_spec (most_ex (s 3).toNat (adjS (TmM s a b) s) (s 2).toNat)).le
/-- the trial meeting of mend, between two pairs -/
def cMe : List Nat := [92, 93, 94, 95, 96, 97, 98, 99, 100, 101, 102, 103, 104, 105, 106, 107, 108, 109, 110, 111, 113, 114, 115, 116, 117, 118, 119, 120, 121, 122, 123, 124, 125, 126, 127, 128, 129]
def MeS (w w1 : Wd) : Prop := (Fr [113, 114, 115, 116, 117, 118, 119, 120, 121, 122, 123, 124, 125, 126, 127, 128, 129] w w1) ∧ (w1 113 2 = -1) ∧ (RV (w1 4) (w1 5) (w1 6) (w1 7) (w1 8) (w1 9) (w1 10) (w1 11) (w1 12) (w1 13) (w1 14) (w1 15) (w 146) (w 149)) ∧ (CtT (w1 4) (w1 7) (w1 114) (w1 115) (w1 116) (w1 117) (-1) (TmS (w 146))) ∧ (w1 114 7 = -1)
theorem MeS.mk {w w1 : Wd} (fr_ : Fr [113, 114, 115, 116, 117, 118, 119, 120, 121, 122, 123, 124, 125, 126, 127, 128, 129] w w1) (at1_ : w1 113 2 = -1) (rv_ : RV (w1 4) (w1 5) (w1 6) (w1 7) (w1 8) (w1 9) (w1 10) (w1 11) (w1 12) (w1 13) (w1 14) (w1 15) (w 146) (w 149)) (ct_ : CtT (w1 4) (w1 7) (w1 114) (w1 115) (w1 116) (w1 117) (-1) (TmS (w 146))) (t7_ : w1 114 7 = -1) : MeS w w1 := And.intro fr_ (And.intro at1_ (And.intro rv_ (And.intro ct_ (t7_))))
theorem MeS.fr {w w1 : Wd} (h_ : MeS w w1) : Fr [113, 114, 115, 116, 117, 118, 119, 120, 121, 122, 123, 124, 125, 126, 127, 128, 129] w w1 := h_.1
theorem MeS.at1 {w w1 : Wd} (h_ : MeS w w1) : w1 113 2 = -1 := h_.2.1
theorem MeS.rv {w w1 : Wd} (h_ : MeS w w1) : RV (w1 4) (w1 5) (w1 6) (w1 7) (w1 8) (w1 9) (w1 10) (w1 11) (w1 12) (w1 13) (w1 14) (w1 15) (w 146) (w 149) := h_.2.2.1
theorem MeS.ct {w w1 : Wd} (h_ : MeS w w1) : CtT (w1 4) (w1 7) (w1 114) (w1 115) (w1 116) (w1 117) (-1) (TmS (w 146)) := h_.2.2.2.1
theorem MeS.t7 {w w1 : Wd} (h_ : MeS w w1) : w1 114 7 = -1 := h_.2.2.2.2
theorem CtT_hr {vo mt tm ak pn hr : Nat → Int} {wt : Int} {T : Tm} {a b : Nat} (ha : a < 8) (hb : b < 8) (hg : ¬ T.gv a b = true) (x : Int) (h : CtT vo mt tm ak pn hr wt T) : CtT vo mt tm ak pn (up1 hr (8 * a + b) x) wt T := by
  have P8 := h.P8
  refine (CtT.mk (h.P) (h.P8) (h.n) (h.n2) (h.n6) (h.back) (h.back3) (h.hands) (h.gv) (fun p q hp hq g => ?_) (h.ak) (h.mates) (h.pn9) (h.hr9) (h.ak9) (h.wt0))
  rw [up1_ap]
  by_cases e : 8 * p + q = 8 * a + b
  · have e1 : p = a := by omega
    have e2 : q = b := by omega
    subst e1; subst e2
    exact absurd g hg
  · rw [if_neg e]; exact h.pn p q hp hq g
theorem TmS_gv {s : Nat → Int} {p q : Nat} (hp : p < 8) (hq : q < 8) : (TmS s).gv p q = true ↔ s (269 + (8 * p + q)) = 1 := by
  show (decide (p < 8 ∧ q < 8) && decide (s (269 + (8 * p + q)) = 1)) = true ↔ _
  rw [decide_eq_true (show p < 8 ∧ q < 8 from ⟨hp, hq⟩), Bool.true_and, decide_eq_true_eq]
theorem S_mended {d : Nat} {Q : MV → Wd → Prop} {w w1 : Wd} (ws : WS (w 146)) (a b : Nat) (ha : (a : Int) < w 146 0) (hb : (b : Int) < w 146 0) (ab : a ≠ b) (st : MeS w w1) (k0 : w 146 (269 + (8 * a + b)) = 1 → Q (mI (-1)) w1) (k1 : ¬ w 146 (269 + (8 * a + b)) = 1 → ∀ w2, MeS w w2 → Q (mI (moM (w 146) a b)) w2) : Cw (d + 29) 149 [mR 0, mR 112, mI ((8 * a + b : Nat) : Int)] w1 Q := by
  have pe := ws.pe
  have un := ws.un
  have wa := ws.wa
  have a8 : a < 8 := by omega
  have b8 : b < 8 := by omega
  have aP : a < (TmS (w 146)).P := by show a < (w 146 0).toNat; omega
  have bP : b < (TmS (w 146)).P := by show b < (w 146 0).toNat; omega
  have r1 : 0 ≤ ((8 * a + b : Nat) : Int) ∧ ((8 * a + b : Nat) : Int) < 64 := by omega
  have g := st.ct.gv a b aP bP
  rw [st.t7, tb_neg1, decide_eq_true (show a < 32 by omega), TmS_gv a8 b8] at g
  apply X_mendedMost_0_112_en
  rw [Int.toNat_natCast]
  refine ⟨r1, fun z => ⟨r1, r1, ?_⟩, fun z => k0 (g.mp ⟨z, rfl⟩)⟩
  have nt : ¬ w 146 (269 + (8 * a + b)) = 1 := fun y => (g.mpr y).1 z
  have ng : ¬ (TmS (w 146)).gv a b = true := fun y => nt ((TmS_gv a8 b8).mp y)
  have hbM := TmB_M (TmB_told ws) ab
  refine S_find_112 (d := d + 13) (w := ub (ub w1 116 (8 * a + b) 0) 117 (8 * a + b) 1) st.rv ws hbM st.at1 (CtT_M a8 b8 st.t7 st.ct) ?_
  intro w2 hF h93 hf
  refine ⟨r1, ?_⟩
  have e4 : w2 4 11 = w 146 3 := by
    rw [hF 4 (by decide)]
    show w1 4 11 = _
    exact st.rv.wants
  refine S_most_112 (d := d + 26) (w := ub w2 116 (8 * a + b) (-1)) ws e4 hf ?_
  intro v gg hv hm
  refine ⟨_, rfl, ?_⟩
  rw [← mostV_eq hm]
  refine k1 nt _ ⟨?_, ?_, ?_, ?_, ?_⟩
  · exact Fr.ubf (Fr.ub (Fr.tr (Fr.ub (Fr.ub st.fr (by decide)) (by decide)) hF (by decide)) (by decide)) (by decide)
  · show w2 113 2 = -1
    rw [h93 2 (by decide) (by decide) (by decide) (by decide)]
    exact st.at1
  · have f : ∀ c, c ∉ cFt → c ≠ 116 → c ≠ 117 → c ≠ 129 → (ubf (ub w2 116 (8 * a + b) (-1)) 129 gg) c = w1 c := fun c hc h1 h2 h3 => by
      funext i
      rw [ubf_ap, if_neg h3, ub_ap, if_neg h1, hF c hc, ub_ap, if_neg h2, ub_ap, if_neg h1]
    rw [f 4 (by decide) (by decide) (by decide) (by decide), f 5 (by decide) (by decide) (by decide) (by decide), f 6 (by decide) (by decide) (by decide) (by decide), f 7 (by decide) (by decide) (by decide) (by decide), f 8 (by decide) (by decide) (by decide) (by decide), f 9 (by decide) (by decide) (by decide) (by decide), f 10 (by decide) (by decide) (by decide) (by decide), f 11 (by decide) (by decide) (by decide) (by decide), f 12 (by decide) (by decide) (by decide) (by decide), f 13 (by decide) (by decide) (by decide) (by decide), f 14 (by decide) (by decide) (by decide) (by decide), f 15 (by decide) (by decide) (by decide) (by decide)]
    exact st.rv
  · have c4 : w2 4 = w1 4 := hF 4 (by decide)
    have c7 : w2 7 = w1 7 := hF 7 (by decide)
    have c14 : w2 114 = w1 114 := hF 114 (by decide)
    have c15 : w2 115 = w1 115 := hF 115 (by decide)
    have c16 : w2 116 = up1 (w1 116) (8 * a + b) 0 := hF 116 (by decide)
    have c17 : w2 117 = up1 (w1 117) (8 * a + b) 1 := hF 117 (by decide)
    have e16 : up1 (up1 (w1 116) (8 * a + b) 0) (8 * a + b) (-1) = w1 116 := by
      funext i
      rw [up1_ap, up1_ap]
      by_cases y : i = 8 * a + b
      · rw [if_pos y, y, z]
      · rw [if_neg y, if_neg y]
    show CtT (w2 4) (w2 7) (w2 114) (w2 115) (up1 (w2 116) (8 * a + b) (-1)) (w2 117) (-1) (TmS (w 146))
    rw [c4, c7, c14, c15, c16, c17, e16]
    exact CtT_hr a8 b8 ng 1 st.ct
  · show w2 114 7 = -1
    rw [hF 114 (by decide)]
    exact st.t7
