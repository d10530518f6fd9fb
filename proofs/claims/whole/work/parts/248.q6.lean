def decZ (z : Int) : Option Int := if z < 0 then none else some z
theorem decZ_some {z v : Int} : decZ z = some v ↔ 0 ≤ z ∧ v = z := by
  unfold decZ
  by_cases q : z < 0
  · rw [if_pos q]; constructor
    · intro h; cases h
    · intro h; omega
  · rw [if_neg q]; constructor
    · intro h; injection h with h; omega
    · rintro ⟨_, h⟩; rw [h]
theorem opt_stepZ {W : Nat} (hW : W ≤ 8) {adj : Nat → Nat → Bool} {c : Nat → Nat → Int} {k : Nat} (hk : k < 16) {S : Nat → Bool} {x x' : Int} {y : Nat → Int}
    (hx : Opt W adj c k S (decZ x)) (hy : ∀ w, w < W → S w = true → adj k w = true → Opt W adj c k (remB S w) (decZ (y w))) (hc : ∀ w, w < W → adj k w = true → 0 ≤ c k w)
    (hA : 0 ≤ x → x ≤ x') (hB : ∀ w, w < W → S w = true → adj k w = true → 0 ≤ y w → y w + c k w ≤ x')
    (hC : 0 ≤ x' → x' = x ∨ ∃ w, w < W ∧ S w = true ∧ adj k w = true ∧ 0 ≤ y w ∧ x' = y w + c k w) : Opt W adj c (k + 1) S (decZ x') := by
  refine opt_step hW hk (y := fun w => decZ (y w)) hx hy ?_ ?_ ?_
  · intro v hv
    rw [decZ_some] at hv
    exact ⟨x', decZ_some.mpr ⟨by have := hA hv.1; omega, rfl⟩, by have := hA hv.1; omega⟩
  · intro w h1 h2 h3 v hv
    rw [decZ_some] at hv
    have a := hB w h1 h2 h3 hv.1
    have b := hc w h1 h3
    exact ⟨x', decZ_some.mpr ⟨by omega, rfl⟩, by omega⟩
  · intro v' hv'
    rw [decZ_some] at hv'
    rcases hC hv'.1 with h | ⟨w, h1, h2, h3, h4, h5⟩
    · exact Or.inl (decZ_some.mpr ⟨by omega, by omega⟩)
    · exact Or.inr ⟨w, h1, h2, h3, y w, decZ_some.mpr ⟨h4, rfl⟩, by omega⟩
def MtD (v4 v11 v13 v107 : Nat → Int) (U W J : Nat) (su sw wo : Nat → Nat) (adj : Nat → Nat → Bool) (co : Nat → Nat → Nat) : Prop := (U ≤ 16) ∧ (W ≤ 8) ∧ (J ≤ 6) ∧ (v4 5 = J) ∧ (v4 8 = U) ∧ (v4 11 = W) ∧ (∀ u, u < U → v11 (5 * u) = su u) ∧ (∀ v, v < W → v13 (4 * v + 1) = sw v) ∧ (∀ v, v < W → v13 (4 * v + 2) = wo v ∧ wo v ≤ 999) ∧ (∀ v, v < W → sw v < J) ∧ (∀ u v, adj u v = true → u < U ∧ v < W ∧ su u = sw v) ∧ (∀ u v, u < U → v < W → adj u v = false → v107 (8 * u + v) = NOW) ∧ (∀ u v, u < U → v < W → adj u v = true → co u v ≤ 5000 ∧ ∃ K : Nat, v107 (8 * u + v) = K ∧ K < 9223372036854775807 ∧ K / 16777216 = co u v)
theorem MtD.mk {v4 v11 v13 v107 : Nat → Int} {U W J : Nat} {su sw wo : Nat → Nat} {adj : Nat → Nat → Bool} {co : Nat → Nat → Nat} (hU_ : U ≤ 16) (hW_ : W ≤ 8) (hJ_ : J ≤ 6) (so_ : v4 5 = J) (un_ : v4 8 = U) (wa_ : v4 11 = W) (us_ : ∀ u, u < U → v11 (5 * u) = su u) (ws_ : ∀ v, v < W → v13 (4 * v + 1) = sw v) (wor_ : ∀ v, v < W → v13 (4 * v + 2) = wo v ∧ wo v ≤ 999) (swJ_ : ∀ v, v < W → sw v < J) (ran_ : ∀ u v, adj u v = true → u < U ∧ v < W ∧ su u = sw v) (no_ : ∀ u v, u < U → v < W → adj u v = false → v107 (8 * u + v) = NOW) (yes_ : ∀ u v, u < U → v < W → adj u v = true → co u v ≤ 5000 ∧ ∃ K : Nat, v107 (8 * u + v) = K ∧ K < 9223372036854775807 ∧ K / 16777216 = co u v) : MtD v4 v11 v13 v107 U W J su sw wo adj co := And.intro hU_ (And.intro hW_ (And.intro hJ_ (And.intro so_ (And.intro un_ (And.intro wa_ (And.intro us_ (And.intro ws_ (And.intro wor_ (And.intro swJ_ (And.intro ran_ (And.intro no_ (yes_))))))))))))
theorem MtD.hU {v4 v11 v13 v107 : Nat → Int} {U W J : Nat} {su sw wo : Nat → Nat} {adj : Nat → Nat → Bool} {co : Nat → Nat → Nat} (h_ : MtD v4 v11 v13 v107 U W J su sw wo adj co) : U ≤ 16 := h_.1
theorem MtD.hW {v4 v11 v13 v107 : Nat → Int} {U W J : Nat} {su sw wo : Nat → Nat} {adj : Nat → Nat → Bool} {co : Nat → Nat → Nat} (h_ : MtD v4 v11 v13 v107 U W J su sw wo adj co) : W ≤ 8 := h_.2.1
theorem MtD.hJ {v4 v11 v13 v107 : Nat → Int} {U W J : Nat} {su sw wo : Nat → Nat} {adj : Nat → Nat → Bool} {co : Nat → Nat → Nat} (h_ : MtD v4 v11 v13 v107 U W J su sw wo adj co) : J ≤ 6 := h_.2.2.1
theorem MtD.so {v4 v11 v13 v107 : Nat → Int} {U W J : Nat} {su sw wo : Nat → Nat} {adj : Nat → Nat → Bool} {co : Nat → Nat → Nat} (h_ : MtD v4 v11 v13 v107 U W J su sw wo adj co) : v4 5 = J := h_.2.2.2.1
theorem MtD.un {v4 v11 v13 v107 : Nat → Int} {U W J : Nat} {su sw wo : Nat → Nat} {adj : Nat → Nat → Bool} {co : Nat → Nat → Nat} (h_ : MtD v4 v11 v13 v107 U W J su sw wo adj co) : v4 8 = U := h_.2.2.2.2.1
theorem MtD.wa {v4 v11 v13 v107 : Nat → Int} {U W J : Nat} {su sw wo : Nat → Nat} {adj : Nat → Nat → Bool} {co : Nat → Nat → Nat} (h_ : MtD v4 v11 v13 v107 U W J su sw wo adj co) : v4 11 = W := h_.2.2.2.2.2.1
theorem MtD.us {v4 v11 v13 v107 : Nat → Int} {U W J : Nat} {su sw wo : Nat → Nat} {adj : Nat → Nat → Bool} {co : Nat → Nat → Nat} (h_ : MtD v4 v11 v13 v107 U W J su sw wo adj co) : ∀ u, u < U → v11 (5 * u) = su u := h_.2.2.2.2.2.2.1
theorem MtD.ws {v4 v11 v13 v107 : Nat → Int} {U W J : Nat} {su sw wo : Nat → Nat} {adj : Nat → Nat → Bool} {co : Nat → Nat → Nat} (h_ : MtD v4 v11 v13 v107 U W J su sw wo adj co) : ∀ v, v < W → v13 (4 * v + 1) = sw v := h_.2.2.2.2.2.2.2.1
theorem MtD.wor {v4 v11 v13 v107 : Nat → Int} {U W J : Nat} {su sw wo : Nat → Nat} {adj : Nat → Nat → Bool} {co : Nat → Nat → Nat} (h_ : MtD v4 v11 v13 v107 U W J su sw wo adj co) : ∀ v, v < W → v13 (4 * v + 2) = wo v ∧ wo v ≤ 999 := h_.2.2.2.2.2.2.2.2.1
theorem MtD.swJ {v4 v11 v13 v107 : Nat → Int} {U W J : Nat} {su sw wo : Nat → Nat} {adj : Nat → Nat → Bool} {co : Nat → Nat → Nat} (h_ : MtD v4 v11 v13 v107 U W J su sw wo adj co) : ∀ v, v < W → sw v < J := h_.2.2.2.2.2.2.2.2.2.1
theorem MtD.ran {v4 v11 v13 v107 : Nat → Int} {U W J : Nat} {su sw wo : Nat → Nat} {adj : Nat → Nat → Bool} {co : Nat → Nat → Nat} (h_ : MtD v4 v11 v13 v107 U W J su sw wo adj co) : ∀ u v, adj u v = true → u < U ∧ v < W ∧ su u = sw v := h_.2.2.2.2.2.2.2.2.2.2.1
theorem MtD.no {v4 v11 v13 v107 : Nat → Int} {U W J : Nat} {su sw wo : Nat → Nat} {adj : Nat → Nat → Bool} {co : Nat → Nat → Nat} (h_ : MtD v4 v11 v13 v107 U W J su sw wo adj co) : ∀ u v, u < U → v < W → adj u v = false → v107 (8 * u + v) = NOW := h_.2.2.2.2.2.2.2.2.2.2.2.1
theorem MtD.yes {v4 v11 v13 v107 : Nat → Int} {U W J : Nat} {su sw wo : Nat → Nat} {adj : Nat → Nat → Bool} {co : Nat → Nat → Nat} (h_ : MtD v4 v11 v13 v107 U W J su sw wo adj co) : ∀ u v, u < U → v < W → adj u v = true → co u v ≤ 5000 ∧ ∃ K : Nat, v107 (8 * u + v) = K ∧ K < 9223372036854775807 ∧ K / 16777216 = co u v := h_.2.2.2.2.2.2.2.2.2.2.2.2
theorem cL_form {wo : Nat → Nat} {co : Nat → Nat → Nat} {u v n : Nat} (hn : netD wo co u v = n) : cL (netD wo co) u v = (((n * 16 + 1) * 1099511627776 + (16 - u) * 32 ^ (7 - v) : Nat) : Int) := by
  unfold cL digc pw
  rw [hn]
  simp only [Int.natCast_add, Int.natCast_mul, Int.natCast_pow]
  rfl
theorem p32 {m : Nat} : 2 ^ (5 * m) = 32 ^ m := by rw [Nat.pow_mul]
theorem p32_le {m : Nat} (h : m ≤ 7) : 32 ^ m ≤ 34359738368 := by
  have := Nat.pow_le_pow_right (n := 32) (by omega) h
  have e : 32 ^ 7 = 34359738368 := rfl
  omega
theorem S_appraise_92 {d : Nat} {Q : MV → Wd → Prop} {w : Wd} {U W J : Nat} {su sw wo : Nat → Nat} {adj : Nat → Nat → Bool} {co : Nat → Nat → Nat} (h : MtD (w 4) (w 11) (w 13) (w 107) U W J su sw wo adj co) (u : Nat) (hu : u < U)
    (k : ∀ (O : Nat) (g : Nat → Int), O < 256 → (∀ v, O.testBit v = true ↔ adjP wo adj co u v = true) → (∀ v, adjP wo adj co u v = true → g v = cL (netD wo co) u v) → Q (mI O) (ubf w 111 g)) : Cw (d + 2) 76 [mR 92, mI u] w Q := by
  have hU := h.hU
  have hW := h.hW
  apply Meeting_appraise_92_en
  intro n1
  have lp : ∀ (r v O : Nat) (g : Nat → Int), v + r = W → O < 2 ^ v → (∀ i, O.testBit i = true ↔ i < v ∧ adjP wo adj co u i = true) → (∀ i, i < v → adjP wo adj co u i = true → g i = cL (netD wo co) u i) → Wp (Cw (d + 1)) cd_Meeting_appraise (1, 0, n1) Q 4 [mR 92, mI u, mI O, mI v, none, none, none] [] (ubf w 111 g) := by
    intro r
    induction r with
    | zero =>
      intro v O g hv hO hb hg
      have : v = W := by omega
      subst this
      have p := pw8 hW
      apply Meeting_appraise_92_c4
      (repeat' (apply spl <;> intro))
      · refine k O g (by omega) (fun i => ?_) (fun i hi => ?_)
        · rw [hb i]
          constructor
          · exact fun z => z.2
          · intro z
            refine ⟨?_, z⟩
            unfold adjP at z
            rw [Bool.and_eq_true] at z
            exact (h.ran u i z.1).2.1
        · refine hg i ?_ hi
          unfold adjP at hi
          rw [Bool.and_eq_true] at hi
          exact (h.ran u i hi.1).2.1
      · exfalso; rename_i q; apply q; show w 4 11 ≤ (v : Int); have := h.wa; omega
    | succ r ih =>
      intro v O g hv hO hb hg
      have p := pw8 (v := v) (by omega)
      have p2 : 2 ^ (v + 1) = 2 ^ v + 2 ^ v := by rw [Nat.pow_succ]; omega
      have e4 : (ubf w 111 g) 4 11 = W := h.wa
      have e13 : (ubf w 111 g) 13 (4 * v + 2) = wo v := (h.wor v (by omega)).1
      have e107 : (ubf w 111 g) 107 (8 * u + v) = w 107 (8 * u + v) := rfl
      have skip : adjP wo adj co u v = false → Wp (Cw (d + 1)) cd_Meeting_appraise (1, 0, n1) Q 4 [mR 92, mI u, mI O, mI (w32 ((v : Int) + 1)), none, none, none] [] (ubf w 111 g) := by
        intro z
        rw [w32_id (x := (v : Int) + 1) (by unfold in32; omega)]
        refine ih (v + 1) O g (by omega) (by omega) (fun i => ?_) (fun i hi hj => ?_)
        · rw [hb i]
          constructor
          · intro ⟨a, b⟩; exact ⟨by omega, b⟩
          · intro ⟨a, b⟩
            refine ⟨?_, b⟩
            by_cases y : i = v
            · subst y; rw [z] at b; cases b
            · omega
        · refine hg i ?_ hj
          by_cases y : i = v
          · subst y; rw [z] at hj; cases hj
          · omega
      apply Meeting_appraise_92_c4
      rw [e4, ix8a (by omega) (by omega), ix4_2 (by omega), Int.toNat_natCast, Int.toNat_natCast, e13, e107]
      cases za : adj u v
      · have en := h.no u v hu (by omega) za
        have zz : cmp3 (w 107 (8 * u + v)) 9223372036854775807 = 0 := cmp3_zero.mpr en
        have zp : adjP wo adj co u v = false := by unfold adjP; rw [za]; rfl
        (repeat' (apply spl <;> intro))
        · exfalso; omega
        · refine ⟨by omega, ?_⟩
          (repeat' (apply spl <;> intro))
          · exfalso; rename_i q; exact q zz
          · exact skip zp
      · obtain ⟨c1, K, k1, k2, k3⟩ := h.yes u v hu (by omega) za
        have wl := (h.wor v (by omega)).2
        have zz : ¬ cmp3 (w 107 (8 * u + v)) 9223372036854775807 = 0 := by
          rw [cmp3_zero, k1]; omega
        have el : w32 (lushr (w 107 (8 * u + v)) 24) = co u v := by
          rw [k1, show (24 : Int) = ((24 : Nat) : Int) from rfl, lushr_nat (by omega) (by omega), show K / 2 ^ 24 = K / 16777216 from rfl, k3, w32_id (by unfold in32; omega)]
        rw [el, w32_id (x := (wo v : Int) - (co u v : Int)) (by unfold in32; omega)]
        (repeat' (apply spl <;> intro))
        · exfalso; omega
        · refine ⟨by omega, ?_⟩
          (repeat' (apply spl <;> intro))
          · refine ⟨by omega, ?_⟩
            (repeat' (apply spl <;> intro))
            · rename_i q
              refine skip ?_
              unfold adjP netD
              rw [za]; simp; omega
            · rename_i q
              have zp : adjP wo adj co u v = true := by
                unfold adjP netD
                rw [za]; simp; omega
              refine ⟨by omega, ?_⟩
              rw [Int.toNat_natCast, ub_on, ishl1 (by omega), ior_nat (by omega) (by omega), w32_id (x := (v : Int) + 1) (by unfold in32; omega)]
              have hm := or_pow hO
              have hn : ((wo v : Int) - (co u v : Int)) = ((wo v - co u v : Nat) : Int) := by omega
              have ev : w64 (lshl (w64 (w64 (((wo v : Int) - (co u v : Int)) * 16) + 1)) 40 + lshl (w32 (16 - (u : Int))) (w32 (5 * w32 (7 - (v : Int))))) = cL (netD wo co) u v := by
                have f1 := cL_form (wo := wo) (co := co) (u := u) (v := v) (n := wo v - co u v) hn
                have l7 := p32_le (m := 7 - v) (by omega)
                have l8 : (16 - u) * 32 ^ (7 - v) ≤ 16 * 34359738368 := Nat.mul_le_mul (by omega) l7
                have g1 : lshl (((wo v - co u v) * 16 + 1 : Nat) : Int) 40 = (((wo v - co u v) * 16 + 1) * 1099511627776 : Nat) := by
                  have := lshl_nat (a := (wo v - co u v) * 16 + 1) (n := 40) (by omega) (by rw [show 2 ^ 40 = 1099511627776 from rfl]; omega)
                  rw [show 2 ^ 40 = 1099511627776 from rfl] at this
                  exact this
                have g2 : lshl ((16 - u : Nat) : Int) ((5 * (7 - v) : Nat) : Int) = ((16 - u) * 32 ^ (7 - v) : Nat) := by
                  have := lshl_nat (a := 16 - u) (n := 5 * (7 - v)) (by omega) (by rw [p32]; omega)
                  rw [p32] at this
                  exact this
                rw [hn, w64_id (x := ((wo v - co u v : Nat) : Int) * 16) (by unfold in64; omega), w64_id (x := ((wo v - co u v : Nat) : Int) * 16 + 1) (by unfold in64; omega), show ((wo v - co u v : Nat) : Int) * 16 + 1 = (((wo v - co u v) * 16 + 1 : Nat) : Int) by omega, g1, w32_id (x := 16 - (u : Int)) (by unfold in32; omega), show 16 - (u : Int) = ((16 - u : Nat) : Int) by omega, w32_id (x := 7 - (v : Int)) (by unfold in32; omega), show 7 - (v : Int) = ((7 - v : Nat) : Int) by omega, w32_id (x := 5 * ((7 - v : Nat) : Int)) (by unfold in32; omega), show 5 * ((7 - v : Nat) : Int) = ((5 * (7 - v) : Nat) : Int) by omega, g2, f1, w64_id (by unfold in64; omega)]
                omega
              rw [ev]
              refine ih (v + 1) (O ||| 2 ^ v) _ (by omega) (by omega) (fun i => ?_) (fun i hi hj => ?_)
              · rw [tbit_or_pow, Bool.or_eq_true, hb i, decide_eq_true_eq]
                constructor
                · rintro (⟨a, b⟩ | a)
                  · exact ⟨by omega, b⟩
                  · subst a; exact ⟨by omega, zp⟩
                · intro ⟨a, b⟩
                  by_cases y : i = v
                  · exact Or.inr y.symm
                  · exact Or.inl ⟨by omega, b⟩
              · rw [up1_ap]
                by_cases y : i = v
                · rw [if_pos y, y]
                · rw [if_neg y]; exact hg i (by omega) hj
          · exfalso; rename_i q; exact q zz
  have e : w = ubf w 111 (w 111) := (ubf_sf0 w 111).symm
  rw [e]
  exact lp W 0 0 (w 111) (by omega) (by omega) (fun i => by simp) (fun i hi => by omega)
