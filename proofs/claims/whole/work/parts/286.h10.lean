theorem w_succ {b : Nat} (h : b < 9) : w32 ((b : Int) + 1) = ((b + 1 : Nat) : Int) := by rw [w32_id (by unfold in32; omega)]; omega
theorem w_ten {a b : Nat} (ha : a < 9) (hb : b < 9) : w32 (w32 (10 * (a : Int)) + (b : Int)) = ((10 * a + b : Nat) : Int) := by
  have e : w32 (10 * (a : Int)) = 10 * (a : Int) := w32_id (by unfold in32; omega)
  rw [e, w32_id (by unfold in32; omega)]; omega
theorem t_m1 (t : Nat) : (-1 : Int) ≤ (t : Int) := by omega
theorem t_le {m t : Nat} (h : (m : Int) ≤ (t : Int)) : ¬ t < m := by omega
theorem t_nle {m t : Nat} (h : ¬ (m : Int) ≤ (t : Int)) : t < m := by omega
theorem L_mend23 {d : Nat} {n1 : Int} {Q : MV → Wd → Prop} {w : Wd} (ws : WS (w 146)) (e0 : w 4 0 = w 146 0) (a : Nat) (ha : (a : Int) < w 146 0) (st : Nat × Int)
    (k : ∀ w1, MeS w w1 → Wp (Cw (d + 29)) cd_X_mend (1, 0, n1) Q 11 [mR 0, mI (mrow (w 146) a (w 146 0).toNat st).1, mI (mrow (w 146) a (w 146 0).toNat st).2, mR 112, mI ((a + 1 : Nat) : Int), none, none] [] w1) :
    ∀ (m b : Nat) (w1 : Wd), b + m = (w 146 0).toNat → MeS w w1 → Wp (Cw (d + 29)) cd_X_mend (1, 0, n1) Q 23 [mR 0, mI (mrow (w 146) a b st).1, mI (mrow (w 146) a b st).2, mR 112, mI a, mI b, none] [] w1 := by
  have pe := ws.pe
  have a8 : a < 8 := by omega
  intro m
  induction m with
  | zero =>
    intro b w1 hb ms
    have hb : b = (w 146 0).toNat := by omega
    subst hb
    have e1 : w1 4 0 = w 146 0 := by rw [ms.fr 4 (by decide)]; exact e0
    have z0 : w1 4 0 ≤ (((w 146 0).toNat : Nat) : Int) := by rw [e1]; omega
    have e2 : w32 ((a : Int) + 1) = ((a + 1 : Nat) : Int) := w_succ (by omega)
    apply X_mend_0_c23
    refine ⟨fun _ => ?_, fun z => absurd z0 z⟩
    rw [e2]; exact k w1 ms
  | succ m ih =>
    intro b w1 hb ms
    have e1 : w1 4 0 = w 146 0 := by rw [ms.fr 4 (by decide)]; exact e0
    have b8 : b < 8 := by omega
    have bP : (b : Int) < w 146 0 := by omega
    have nb : ¬ w1 4 0 ≤ (b : Int) := by rw [e1]; omega
    have bm : b + 1 + m = (w 146 0).toNat := by omega
    have e2 : w32 ((b : Int) + 1) = ((b + 1 : Nat) : Int) := w_succ (by omega)
    have e3 := w_ten (a := a) (b := b) (by clear e2; omega) (by clear e2; omega)
    have ix := ix8a (u := a) (v := b) (by clear e2 e3; omega) b8
    have s1 : mrow (w 146) a (b + 1) st = mstep (w 146) a b (mrow (w 146) a b st) := rfl
    have ih1 := ih (b + 1)
    rw [s1] at ih1
    clear ih s1
    generalize mrow (w 146) a b st = t at ih1 ⊢
    apply X_mend_0_c23
    rw [e2, e3, ix]
    refine ⟨fun z => absurd z nb, fun _ => ⟨fun ab => ?_, fun ab => ⟨fun _ => ?_, fun z => ?_⟩⟩⟩
    · have ab' : a ≠ b := fun y => ab (by rw [y])
      refine S_mended (d := d) (w := w) ws a b ha bP ab' ms (fun q => ?_) (fun q w2 ms2 => ?_)
      · refine ⟨_, rfl, fun _ => ?_, fun z => absurd ?_ z⟩
        · have e : mstep (w 146) a b t = t := by unfold mstep; rw [if_pos (Or.inr q)]
          have := ih1 w1 bm ms
          rw [e] at this
          exact this
        · exact t_m1 t.1
      · have e : mstep (w 146) a b t = if t.1 < moM (w 146) a b then (moM (w 146) a b, ((10 * a + b : Nat) : Int)) else t := by
          unfold mstep
          rw [if_neg (fun y => by rcases y with y | y; exact ab' y; exact q y)]
        have i2 := ih1 w2 bm ms2
        rw [e] at i2
        refine ⟨_, rfl, fun z => ?_, fun z => ?_⟩
        · rw [if_neg (t_le z)] at i2
          exact i2
        · rw [if_pos (t_nle z)] at i2
          exact i2
    · have e : mstep (w 146) a b t = t := by unfold mstep; rw [if_pos (Or.inl (Int.ofNat_inj.mp (Classical.not_not.mp ab)))]
      have := ih1 w1 bm ms
      rw [e] at this
      exact this
    · exact absurd (t_m1 t.1) z
theorem L_mend11 {d : Nat} {n1 : Int} {Q : MV → Wd → Prop} {w : Wd} (ws : WS (w 146)) (e0 : w 4 0 = w 146 0) (e11 : w 4 11 = w 146 3) (G : Nat)
    (k : ∀ w1, MeS w w1 → Q (mI (mall (w 146) G (w 146 0).toNat).2) w1) :
    ∀ (m a : Nat) (w1 : Wd), a + m = (w 146 0).toNat → MeS w w1 → Wp (Cw (d + 29)) cd_X_mend (1, 0, n1) Q 11 [mR 0, mI (mall (w 146) G a).1, mI (mall (w 146) G a).2, mR 112, mI a, none, none] [] w1 := by
  have pe := ws.pe
  have wa := ws.wa
  intro m
  induction m with
  | zero =>
    intro a w1 ha ms
    have ha : a = (w 146 0).toNat := by omega
    subst ha
    have e1 : w1 4 0 = w 146 0 := by rw [ms.fr 4 (by decide)]; exact e0
    apply X_mend_0_c11
    refine ⟨fun _ => k w1 ms, fun z => absurd ?_ z⟩
    rw [e1]; omega
  | succ m ih =>
    intro a w1 ha ms
    have e1 : w1 4 0 = w 146 0 := by rw [ms.fr 4 (by decide)]; exact e0
    have e2 : w1 4 11 = w 146 3 := by rw [ms.fr 4 (by decide)]; exact e11
    have na : ¬ w1 4 0 ≤ (a : Int) := by rw [e1]; omega
    apply X_mend_0_c11
    refine ⟨fun z => absurd z na, fun _ => ⟨fun z => ?_, fun _ => ?_⟩⟩
    · have hf : (w 146 3).toNat ≤ (mall (w 146) G a).1 := by rw [e2] at z; omega
      have e := mall_full (G := G) (moM_le (w 146)) hf (m + 1)
      rw [ha] at e
      rw [← e]
      exact k w1 ms
    · exact L_mend23 ws e0 a (by omega) (mall (w 146) G a) (fun w2 ms2 => ih (a + 1) w2 (by omega) ms2) (w 146 0).toNat 0 w1 (by omega) ms
