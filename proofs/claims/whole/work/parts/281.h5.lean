theorem dec_or {a b c : Prop} [Decidable a] [Decidable b] [Decidable c] (h : c ↔ a ∨ b) : (decide a || decide b) = decide c := by
  by_cases ha : a <;> by_cases hb : b <;> simp [ha, hb, h]
theorem S_metWants_112 {d : Nat} {Q : MV → Wd → Prop} {w : Wd} (W : Nat) (hW : W ≤ 8) (h4 : w 4 11 = W) {top : Int} (ht : w 112 7 = top) (h0 : 0 ≤ top) (hb8 : top < 9223372036854775808) {f : Nat → Nat} (hf : ∀ v, v < 8 → top / (32 ^ (7 - v)) % 32 = f v) (fl : ∀ v, f v ≤ 16)
    (k : ∀ m : Int, (∀ k, k < 32 → tb m k = decide (k < W ∧ ¬ f k = 0)) → Q (mI m) w) : Cw (d + 3) 146 [mR 112] w Q := by
  apply Meeting_metWants_112_en
  intro n1
  have lp : ∀ (r v : Nat) (m : Int), v + r = W → (∀ k, k < 32 → tb m k = decide (k < v ∧ ¬ f k = 0)) → Wp (Cw (d + 2)) cd_Meeting_metWants (1, 0, n1) Q 4 [mR 112, mI m, mI v] [] w := by
    intro r
    induction r with
    | zero =>
      intro v m hv hm
      have : v = W := by omega
      subst this
      apply Meeting_metWants_112_c4
      refine ⟨fun _ => k m hm, fun z => absurd ?_ z⟩
      rw [h4]; omega
    | succ r ih =>
      intro v m hv hm
      have g := fl v
      have ud := udig h0 hb8 (v := v) (x := f v) (by omega) (hf v (by omega))
      apply Meeting_metWants_112_c4
      rw [ht, ud, h4]
      clear ud hf ht
      rw [w32_id (x := 16 - (f v : Int)) (by unfold in32; omega), w32_id (x := (v : Int) + 1) (by unfold in32; omega)]
      refine ⟨fun z => by exfalso; omega, fun _ => ⟨fun z1 => ⟨fun _ => ?_, fun z2 => by exfalso; omega⟩, fun z1 => ?_⟩⟩
      · refine ih (v + 1) _ (by omega) (fun k hk => ?_)
        rw [tb_or, hm k hk, tb_bit (by omega) (by omega), Int.toNat_natCast]
        refine dec_or ⟨fun q => ?_, fun q => ?_⟩
        · by_cases e : k = v
          · exact Or.inr e
          · exact Or.inl ⟨by omega, q.2⟩
        · rcases q with q | q
          · exact ⟨by omega, q.2⟩
          · subst q; exact ⟨by omega, by omega⟩
      · refine ih (v + 1) _ (by omega) (fun k hk => ?_)
        rw [tb_or, hm k hk, tb_zero, Bool.or_false, decide_eq_decide]
        refine ⟨fun q => ⟨by omega, q.2⟩, fun q => ⟨?_, q.2⟩⟩
        have : k ≠ v := by intro e; subst e; exact q.2 (by omega)
        omega
  exact lp W 0 0 (by omega) (fun k hk => by rw [tb_zero, decide_eq_false (by omega)])
theorem L_star {d : Nat} {n1 : Int} {Q : MV → Wd → Prop} {w : Wd} (W : Nat) (hW : W ≤ 8) (h3 : w 146 3 = W) {f : Nat → Nat} (hu : ∀ v, v < 8 → w 167 v = unitI f v)
    (k : ∀ o : Nat → Int, (∀ i, i ≠ 72 → o i = w 144 i) → in32 (o 72) → (∀ k, k < 32 → tb (o 72) k = decide (k < W ∧ f k = 0)) → Cw (d + 2) 223 [mR 144] (ubf w 144 o) (fun r v2 => ∃ r3 : Int, r = mI r3 ∧ Q (mI r3) v2)) : Wp (Cw (d + 2)) cd_M_quarrel (1, 0, n1) Q 45 [mR 144, none, none, mI 0] [] (ub w 144 72 0) := by
  have lp : ∀ (r v : Nat) (o : Nat → Int), v + r = W → (∀ i, i ≠ 72 → o i = w 144 i) → in32 (o 72) → (∀ k, k < 32 → tb (o 72) k = decide (k < v ∧ f k = 0)) → Wp (Cw (d + 2)) cd_M_quarrel (1, 0, n1) Q 45 [mR 144, none, none, mI v] [] (ubf w 144 o) := by
    intro r
    induction r with
    | zero =>
      intro v o hv ho hi hm
      have : v = W := by omega
      subst this
      apply M_quarrel_144_c45
      refine ⟨fun _ => k o ho hi hm, fun z => absurd ?_ z⟩
      show w 146 3 ≤ _
      rw [h3]; omega
    | succ r ih =>
      intro v o hv ho hi hm
      apply M_quarrel_144_c45
      have e : (ubf w 144 o) 167 (v : Int).toNat = unitI f v := by rw [Int.toNat_natCast]; exact hu v (by omega)
      rw [e, w32_id (x := (v : Int) + 1) (by unfold in32; omega), ub_on, ub_on]
      refine ⟨fun z => ?_, fun _ => ⟨⟨by omega, by omega⟩, ⟨fun z => ?_, fun z => ?_⟩⟩⟩
      · exfalso
        have z : w 146 3 ≤ (v : Int) := z
        omega
      · have fz : ¬ f v = 0 := by
          intro q; unfold unitI at z; rw [if_pos q] at z; omega
        refine ih (v + 1) _ (by omega) (fun i hi => by rw [up1_ap, if_neg hi]; exact ho i hi) (by rw [up1_ap, if_pos rfl]; exact ior_in _ _) (fun k hk => ?_)
        rw [up1_ap, if_pos rfl, tb_or, tb_zero, Bool.or_false]
        show tb (o 72) k = _
        rw [hm k hk, decide_eq_decide]
        refine ⟨fun q => ⟨by omega, q.2⟩, fun q => ⟨?_, q.2⟩⟩
        have : k ≠ v := by intro e; subst e; exact fz q.2
        omega
      · have fz : f v = 0 := by
          by_cases q : f v = 0
          · exact q
          · exfalso; unfold unitI at z; rw [if_neg q] at z; omega
        refine ih (v + 1) _ (by omega) (fun i hi => by rw [up1_ap, if_neg hi]; exact ho i hi) (by rw [up1_ap, if_pos rfl]; exact ior_in _ _) (fun k hk => ?_)
        rw [up1_ap, if_pos rfl, tb_or, tb_bit (by omega) (by omega), Int.toNat_natCast]
        show (tb (o 72) k || _) = _
        rw [hm k hk]
        refine dec_or ⟨fun q => ?_, fun q => ?_⟩
        · by_cases e : k = v
          · exact Or.inr e
          · exact Or.inl ⟨by omega, q.2⟩
        · rcases q with q | q
          · exact ⟨by omega, q.2⟩
          · subst q; exact ⟨by omega, fz⟩
  refine Eq.mp ?_ (lp W 0 (up1 (w 144) 72 0) (by omega) (fun i hi => by rw [up1_ap, if_neg hi]) (by rw [up1_ap, if_pos rfl]; unfold in32; omega) (fun k hk => by rw [up1_ap, if_pos rfl, tb_zero, decide_eq_false (by omega)]))
  rfl
theorem star_eq {W : Nat} (hW : W ≤ 8) {f : Nat → Nat} {m o : Int} (hm : ∀ k, k < 32 → tb m k = decide (k < W ∧ ¬ f k = 0)) (io : in32 o) (ho : ∀ k, k < 32 → tb o k = decide (k < W ∧ f k = 0)) : iand (w32 (ishl 1 (W : Int) - 1)) (ixor m (-1)) = o := by
  refine tb_ext (iand_in _ _) io (fun k hk => ?_)
  have p0 := Nat.two_pow_pos W
  have p1 : 2 ^ W ≤ 256 := Nat.pow_le_pow_right (n := 2) (by omega) (show W ≤ 8 by omega)
  rw [tb_and, tb_not m hk, hm k hk, ho k hk, ishl1 (by omega), w32_id (by unfold in32; omega), show ((2 ^ W : Nat) : Int) - 1 = ((2 ^ W - 1 : Nat) : Int) by omega, tb_nat _ _ (by omega), Nat.testBit_two_pow_sub_one]
  by_cases a : k < W <;> by_cases b : f k = 0 <;> simp [a, b]
/-- the reference's trial, told and weighed -/
theorem S_refT {d : Nat} {Q : MV → Wd → Prop} {w w3 : Wd} (ws : WS (w 146)) (e3 : w3 146 = w 146)
    (k : ∀ w4, Fr [144, 151, 152, 153, 154] w3 w4 → (∀ i, i ∈ [2, 15, 41, 42, 62, 64, 66, 71, 72] → w4 144 i = w3 144 i) → w4 144 25 = (TmS (w 146)).n → RfT (w4 144) (w 146) (w4 151) (w4 152) (w4 153) (w4 154) (TmS (w 146)) → Q none w4) : Cw (d + 1) 208 [mR 144] w3 Q := by
  refine S_asTold_144 (d := d) ?_
  intro w4 hF4 h144 h25 h26 h27 h64 h8
  rw [e3] at h25 h26 h64 h8
  refine k w4 hF4 (fun i hi => ?_) (by rw [h25, TmS_n ws]) (RfT_told ws h26 h27 (fun k hk => (h64 k hk).1) (fun k hk => (h64 k hk).2.1) (fun k hk => (h64 k hk).2.2) h8)
  simp only [List.mem_cons, List.not_mem_nil, or_false] at hi
  exact h144 i (by omega) (by omega) (by omega)
theorem S_refW {d : Nat} {Q : MV → Wd → Prop} {w w4 : Wd} {T : Tm} (ws : WS (w 146)) (hb : TmB T) (e4 : w4 146 = w 146) (law : w4 144 25 = T.n) (rt : RfT (w4 144) (w 146) (w4 151) (w4 152) (w4 153) (w4 154) T)
    (k : ∀ w5, Fr [144, 155, 156, 157, 158, 159, 160, 161, 162, 163, 164] w4 w5 → (∀ i, i ∈ [2, 15, 41, 42, 62, 64, 66, 71, 72] → w5 144 i = w4 144 i) → RfD (w 146) (w5 161) (w5 163) (w 146 2).toNat (w 146 3).toNat (woS (w 146)) (adjS T (w 146)) (coS T (w 146)) (paS T (w 146)) → Q none w5) : Cw (d + 5) 209 [mR 144] w4 Q := by
  have un := ws.un
  have wa := ws.wa
  refine S_weigh (d := d) (w := w4) (T := T) (by rw [e4]; exact rt) law (by rw [e4]; exact ws) (w 146 2).toNat (w 146 3).toNat (by rw [e4]; omega) (by rw [e4]; omega) ?_
  intro w5 hK hway
  rw [e4] at hway
  refine k w5 hK.1 (fun i hi => ?_) (RfD_of hb ws (fun u v hu hv => hway u v (by omega) (by omega)))
  simp only [List.mem_cons, List.not_mem_nil, or_false] at hi
  exact hK.2 i (by omega) (by omega) (by omega)
