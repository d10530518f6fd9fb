set_option maxRecDepth 4096 in
theorem X_end_0_c0 {d : Nat} {n1 : Int} {Q : MV → Wd → Prop} {x1 : Int} {w : Wd} (h : (x1 < 0 → Q (mI 0) w) ∧ (¬ (x1 < 0) → ((x1 ≤ w 0 1 → Q (mI 1) (ub w 0 1 x1)) ∧ (¬ (x1 ≤ w 0 1) → Q (mI 0) w)))) : Wp (Cw (d + 0)) cd_X_end (2, 0, n1) Q 0 [mR 0, mI x1] [] w :=
  Wp.s (Wp.s ⟨fun q1 => Wp.s (Wp.s ⟨Or.inl rfl, (h.1 q1)⟩), fun q1 => Wp.s (Wp.s (Wp.s (Wp.s ⟨fun q2 => Wp.s (Wp.s (Wp.s (Wp.s (Wp.s ⟨Or.inr rfl, ((h.2 q1).1 q2)⟩)))), fun q2 => Wp.s (Wp.s ⟨Or.inl rfl, ((h.2 q1).2 q2)⟩)⟩)))⟩)
set_option maxRecDepth 4096 in
theorem X_end_0_en {d : Nat} {Q : MV → Wd → Prop} {x1 : Int} {w : Wd} (h : (x1 < 0 → Q (mI 0) w) ∧ (¬ (x1 < 0) → ((x1 ≤ w 0 1 → Q (mI 1) (ub w 0 1 x1)) ∧ (¬ (x1 ≤ w 0 1) → Q (mI 0) w)))) : Cw (d + 1) 14 [mR 0, mI x1] w Q :=
  Cw_in (by decide) (by decide) (Nat.le_of_ble_eq_true rfl) (fun n1 => X_end_0_c0 h)
set_option maxRecDepth 4096 in
theorem M_end_144_c0 {d : Nat} {n1 : Int} {Q : MV → Wd → Prop} {x1 : Int} {w : Wd} (h : (x1 < 0 → Q (mI 0) (ub w 144 0 0)) ∧ (¬ (x1 < 0) → ((x1 ≤ w 144 2 → Q (mI 1) (ub (ub w 144 0 0) 144 2 x1)) ∧ (¬ (x1 ≤ w 144 2) → Q (mI 0) (ub w 144 0 0))))) : Wp (Cw (d + 0)) cd_M_end (2, 0, n1) Q 0 [mR 144, mI x1] [] w :=
  Wp.s (Wp.s (Wp.s (Wp.s (Wp.s ⟨fun q1 => Wp.s (Wp.s ⟨Or.inl rfl, (h.1 q1)⟩), fun q1 => Wp.s (Wp.s (Wp.s (Wp.s ⟨fun q2 => Wp.s (Wp.s (Wp.s (Wp.s (Wp.s ⟨Or.inr rfl, ((h.2 q1).1 q2)⟩)))), fun q2 => Wp.s (Wp.s ⟨Or.inl rfl, ((h.2 q1).2 q2)⟩)⟩)))⟩))))
set_option maxRecDepth 4096 in
theorem M_end_144_en {d : Nat} {Q : MV → Wd → Prop} {x1 : Int} {w : Wd} (h : (x1 < 0 → Q (mI 0) (ub w 144 0 0)) ∧ (¬ (x1 < 0) → ((x1 ≤ w 144 2 → Q (mI 1) (ub (ub w 144 0 0) 144 2 x1)) ∧ (¬ (x1 ≤ w 144 2) → Q (mI 0) (ub w 144 0 0))))) : Cw (d + 1) 171 [mR 144, mI x1] w Q :=
  Cw_in (by decide) (by decide) (Nat.le_of_ble_eq_true rfl) (fun n1 => M_end_144_c0 h)
set_option maxRecDepth 4096 in
theorem X_takeTape_0_c0 {d : Nat} {n1 : Int} {Q : MV → Wd → Prop} {w : Wd} (h : Q (mI (w 0 1)) (ub w 0 1 0)) : Wp (Cw (d + 0)) cd_X_takeTape (1, 0, n1) Q 0 [mR 0, none] [] w :=
  Wp.s (Wp.s (Wp.s (Wp.s (Wp.s (Wp.s (Wp.s (Wp.s h)))))))
set_option maxRecDepth 4096 in
theorem X_takeTape_0_en {d : Nat} {Q : MV → Wd → Prop} {w : Wd} (h : Q (mI (w 0 1)) (ub w 0 1 0)) : Cw (d + 1) 16 [mR 0] w Q :=
  Cw_in (by decide) (by decide) (Nat.le_of_ble_eq_true rfl) (fun n1 => X_takeTape_0_c0 h)
set_option maxRecDepth 4096 in
theorem Tokens_isDigit_c0 {d : Nat} {n1 : Int} {Q : MV → Wd → Prop} {x0 : Int} {w : Wd} (h : (x0 < 48 → Q (mI 0) w) ∧ (¬ (x0 < 48) → ((57 < x0 → Q (mI 0) w) ∧ (¬ (57 < x0) → Q (mI 1) w)))) : Wp (Cw (d + 0)) cd_Tokens_isDigit (2, 0, n1) Q 0 [mI x0] [] w :=
  Wp.s (Wp.s (Wp.s ⟨fun q1 => Wp.s (Wp.s ⟨Or.inl rfl, (h.1 q1)⟩), fun q1 => Wp.s (Wp.s (Wp.s ⟨fun q2 => Wp.s (Wp.s ⟨Or.inl rfl, ((h.2 q1).1 q2)⟩), fun q2 => Wp.s (Wp.s (Wp.s ⟨Or.inr rfl, ((h.2 q1).2 q2)⟩))⟩))⟩))
set_option maxRecDepth 4096 in
theorem Tokens_isDigit_en {d : Nat} {Q : MV → Wd → Prop} {x0 : Int} {w : Wd} (h : (x0 < 48 → Q (mI 0) w) ∧ (¬ (x0 < 48) → ((57 < x0 → Q (mI 0) w) ∧ (¬ (57 < x0) → Q (mI 1) w)))) : Cw (d + 1) 19 [mI x0] w Q :=
  Cw_in (by decide) (by decide) (Nat.le_of_ble_eq_true rfl) (fun n1 => Tokens_isDigit_c0 h)
set_option maxRecDepth 4096 in
theorem Tokens_isLetter_c0 {d : Nat} {n1 : Int} {Q : MV → Wd → Prop} {x0 : Int} {w : Wd} (h : (x0 < 97 → Q (mI 0) w) ∧ (¬ (x0 < 97) → ((122 < x0 → Q (mI 0) w) ∧ (¬ (122 < x0) → Q (mI 1) w)))) : Wp (Cw (d + 0)) cd_Tokens_isLetter (2, 0, n1) Q 0 [mI x0] [] w :=
  Wp.s (Wp.s (Wp.s ⟨fun q1 => Wp.s (Wp.s ⟨Or.inl rfl, (h.1 q1)⟩), fun q1 => Wp.s (Wp.s (Wp.s ⟨fun q2 => Wp.s (Wp.s ⟨Or.inl rfl, ((h.2 q1).1 q2)⟩), fun q2 => Wp.s (Wp.s (Wp.s ⟨Or.inr rfl, ((h.2 q1).2 q2)⟩))⟩))⟩))
set_option maxRecDepth 4096 in
theorem Tokens_isLetter_en {d : Nat} {Q : MV → Wd → Prop} {x0 : Int} {w : Wd} (h : (x0 < 97 → Q (mI 0) w) ∧ (¬ (x0 < 97) → ((122 < x0 → Q (mI 0) w) ∧ (¬ (122 < x0) → Q (mI 1) w)))) : Cw (d + 1) 20 [mI x0] w Q :=
  Cw_in (by decide) (by decide) (Nat.le_of_ble_eq_true rfl) (fun n1 => Tokens_isLetter_c0 h)
set_option maxRecDepth 4096 in
theorem Tokens_word_2_c0 {d : Nat} {n1 : Int} {Q : MV → Wd → Prop} {w : Wd} (h : (¬ w 2 5 = 5 → Q (mI ((-1))) w) ∧ (¬ (¬ w 2 5 = 5) → Q (mI (w 2 6)) w)) : Wp (Cw (d + 0)) cd_Tokens_word (1, 0, n1) Q 0 [mR 2] [] w :=
  Wp.s (Wp.s (Wp.s (Wp.s ⟨fun q1 => Wp.s (Wp.s ((h.1 q1))), fun q1 => Wp.s (Wp.s (Wp.s (Wp.s ((h.2 q1)))))⟩)))
set_option maxRecDepth 4096 in
theorem Tokens_word_2_en {d : Nat} {Q : MV → Wd → Prop} {w : Wd} (h : (¬ w 2 5 = 5 → Q (mI ((-1))) w) ∧ (¬ (¬ w 2 5 = 5) → Q (mI (w 2 6)) w)) : Cw (d + 1) 26 [mR 2] w Q :=
  Cw_in (by decide) (by decide) (Nat.le_of_ble_eq_true rfl) (fun n1 => Tokens_word_2_c0 h)
set_option maxRecDepth 4096 in
theorem Tokens_fail_2_c0 {d : Nat} {n1 : Int} {Q : MV → Wd → Prop} {x1 : Int} {w : Wd} (h : Q (mI 0) (ub w 2 8 x1)) : Wp (Cw (d + 0)) cd_Tokens_fail (2, 0, n1) Q 0 [mR 2, mI x1] [] w :=
  Wp.s (Wp.s (Wp.s (Wp.s (Wp.s ⟨Or.inl rfl, h⟩))))
set_option maxRecDepth 4096 in
theorem Tokens_fail_2_en {d : Nat} {Q : MV → Wd → Prop} {x1 : Int} {w : Wd} (h : Q (mI 0) (ub w 2 8 x1)) : Cw (d + 1) 28 [mR 2, mI x1] w Q :=
  Cw_in (by decide) (by decide) (Nat.le_of_ble_eq_true rfl) (fun n1 => Tokens_fail_2_c0 h)
set_option maxRecDepth 4096 in
theorem Tokens_isName_2_c0 {d : Nat} {n1 : Int} {Q : MV → Wd → Prop} {w : Wd} (h : (w 2 5 = 6 → Q (mI 1) w) ∧ (¬ (w 2 5 = 6) → Q (mI 0) (ub w 2 8 1))) : Wp (Cw (d + 1)) cd_Tokens_isName (2, 0, n1) Q 0 [mR 2] [] w :=
  Wp.s (Wp.s (Wp.s (Wp.s ⟨fun q1 => Wp.s (Wp.s (Wp.s ⟨Or.inr rfl, (h.1 q1)⟩)), fun q1 => Wp.s (Wp.s (Wp.s (Tokens_fail_2_en (Wp.s ⟨fun _ => Wp.s (Wp.s ⟨Or.inl rfl, (h.2 q1)⟩), fun q => absurd (cn_yes rfl) q⟩))))⟩)))
set_option maxRecDepth 4096 in
theorem Tokens_isName_2_en {d : Nat} {Q : MV → Wd → Prop} {w : Wd} (h : (w 2 5 = 6 → Q (mI 1) w) ∧ (¬ (w 2 5 = 6) → Q (mI 0) (ub w 2 8 1))) : Cw (d + 2) 30 [mR 2] w Q :=
  Cw_in (by decide) (by decide) (Nat.le_of_ble_eq_true rfl) (fun n1 => Tokens_isName_2_c0 h)
set_option maxRecDepth 4096 in
theorem Village_addUnit_16_c0 {d : Nat} {n1 : Int} {Q : MV → Wd → Prop} {x1 x2 x3 x4 x5 : Int} {w : Wd} (h : (0 ≤ w32 ((w32 ((w 16 8) * 5)) + 0) ∧ w32 ((w32 ((w 16 8) * 5)) + 0) < 80) ∧ ((0 ≤ w32 ((w32 ((w 16 8) * 5)) + 1) ∧ w32 ((w32 ((w 16 8) * 5)) + 1) < 80) ∧ ((0 ≤ w32 ((w32 ((w 16 8) * 5)) + 2) ∧ w32 ((w32 ((w 16 8) * 5)) + 2) < 80) ∧ ((0 ≤ w32 ((w32 ((w 16 8) * 5)) + 3) ∧ w32 ((w32 ((w 16 8) * 5)) + 3) < 80) ∧ ((0 ≤ x2 ∧ x2 < 6) ∧ ((0 ≤ w32 ((w32 ((w 16 8) * 5)) + 4) ∧ w32 ((w32 ((w 16 8) * 5)) + 4) < 80) ∧ ((0 ≤ w 16 8 ∧ w 16 8 < 16) ∧ Q none (ub (ub (ub (ub (ub (ub (ub w 23 (w32 ((w32 ((w 16 8) * 5)) + 0)).toNat x2) 23 (w32 ((w32 ((w 16 8) * 5)) + 1)).toNat x3) 23 (w32 ((w32 ((w 16 8) * 5)) + 2)).toNat x4) 23 (w32 ((w32 ((w 16 8) * 5)) + 3)).toNat x5) 23 (w32 ((w32 ((w 16 8) * 5)) + 4)).toNat (w32 (x5 + (w 22 x2.toNat)))) 24 (w 16 8).toNat x1) 16 8 (w32 ((w 16 8) + 1)))))))))) : Wp (Cw (d + 0)) cd_Village_addUnit (0, 0, n1) Q 0 [mR 16, mI x1, mI x2, mI x3, mI x4, mI x5, none] [] w :=
  Wp.s (Wp.s (Wp.s (Wp.s (Wp.s (Wp.s (Wp.s (Wp.s (Wp.s (Wp.s (Wp.s (Wp.s ⟨h.1, Wp.s (Wp.s (Wp.s (Wp.s (Wp.s (Wp.s (Wp.s ⟨h.2.1, Wp.s (Wp.s (Wp.s (Wp.s (Wp.s (Wp.s (Wp.s ⟨h.2.2.1, Wp.s (Wp.s (Wp.s (Wp.s (Wp.s (Wp.s (Wp.s ⟨h.2.2.2.1, Wp.s (Wp.s (Wp.s (Wp.s (Wp.s (Wp.s (Wp.s (Wp.s (Wp.s (Wp.s ⟨h.2.2.2.2.1, Wp.s (Wp.s ⟨h.2.2.2.2.2.1, Wp.s (Wp.s (Wp.s (Wp.s (Wp.s (Wp.s ⟨h.2.2.2.2.2.2.1, Wp.s (Wp.s (Wp.s (Wp.s (Wp.s (Wp.s (Wp.s (h.2.2.2.2.2.2.2)))))))⟩)))))⟩)⟩)))))))))⟩))))))⟩))))))⟩))))))⟩)))))))))))
set_option maxRecDepth 4096 in
theorem Village_addUnit_16_en {d : Nat} {Q : MV → Wd → Prop} {x1 x2 x3 x4 x5 : Int} {w : Wd} (h : (0 ≤ w32 ((w32 ((w 16 8) * 5)) + 0) ∧ w32 ((w32 ((w 16 8) * 5)) + 0) < 80) ∧ ((0 ≤ w32 ((w32 ((w 16 8) * 5)) + 1) ∧ w32 ((w32 ((w 16 8) * 5)) + 1) < 80) ∧ ((0 ≤ w32 ((w32 ((w 16 8) * 5)) + 2) ∧ w32 ((w32 ((w 16 8) * 5)) + 2) < 80) ∧ ((0 ≤ w32 ((w32 ((w 16 8) * 5)) + 3) ∧ w32 ((w32 ((w 16 8) * 5)) + 3) < 80) ∧ ((0 ≤ x2 ∧ x2 < 6) ∧ ((0 ≤ w32 ((w32 ((w 16 8) * 5)) + 4) ∧ w32 ((w32 ((w 16 8) * 5)) + 4) < 80) ∧ ((0 ≤ w 16 8 ∧ w 16 8 < 16) ∧ Q none (ub (ub (ub (ub (ub (ub (ub w 23 (w32 ((w32 ((w 16 8) * 5)) + 0)).toNat x2) 23 (w32 ((w32 ((w 16 8) * 5)) + 1)).toNat x3) 23 (w32 ((w32 ((w 16 8) * 5)) + 2)).toNat x4) 23 (w32 ((w32 ((w 16 8) * 5)) + 3)).toNat x5) 23 (w32 ((w32 ((w 16 8) * 5)) + 4)).toNat (w32 (x5 + (w 22 x2.toNat)))) 24 (w 16 8).toNat x1) 16 8 (w32 ((w 16 8) + 1)))))))))) : Cw (d + 1) 41 [mR 16, mI x1, mI x2, mI x3, mI x4, mI x5] w Q :=
  Cw_in (by decide) (by decide) (Nat.le_of_ble_eq_true rfl) (fun n1 => Village_addUnit_16_c0 h)
set_option maxRecDepth 4096 in
theorem Tokens_faultAnswer_2_c0 {d : Nat} {n1 : Int} {Q : MV → Wd → Prop} {w : Wd} (h : Q (mI (w32 (((-1)) - (w 2 7)))) w) : Wp (Cw (d + 0)) cd_Tokens_faultAnswer (1, 0, n1) Q 0 [mR 2] [] w :=
  Wp.s (Wp.s (Wp.s (Wp.s (Wp.s h))))
set_option maxRecDepth 4096 in
theorem Tokens_faultAnswer_2_en {d : Nat} {Q : MV → Wd → Prop} {w : Wd} (h : Q (mI (w32 (((-1)) - (w 2 7)))) w) : Cw (d + 1) 46 [mR 2] w Q :=
  Cw_in (by decide) (by decide) (Nat.le_of_ble_eq_true rfl) (fun n1 => Tokens_faultAnswer_2_c0 h)
set_option maxRecDepth 4096 in
theorem M_taken_144_c0 {d : Nat} {n1 : Int} {Q : MV → Wd → Prop} {x1 : Int} {w : Wd} (h : Q none (ub (ub (ub (ub w 144 3 (w 144 2)) 144 2 0) 144 4 0) 144 5 x1)) : Wp (Cw (d + 0)) cd_M_taken (0, 0, n1) Q 0 [mR 144, mI x1] [] w :=
  Wp.s (Wp.s (Wp.s (Wp.s (Wp.s (Wp.s (Wp.s (Wp.s (Wp.s (Wp.s (Wp.s (Wp.s (Wp.s (Wp.s h)))))))))))))
set_option maxRecDepth 4096 in
theorem M_taken_144_en {d : Nat} {Q : MV → Wd → Prop} {x1 : Int} {w : Wd} (h : Q none (ub (ub (ub (ub w 144 3 (w 144 2)) 144 2 0) 144 4 0) 144 5 x1)) : Cw (d + 1) 174 [mR 144, mI x1] w Q :=
  Cw_in (by decide) (by decide) (Nat.le_of_ble_eq_true rfl) (fun n1 => M_taken_144_c0 h)
set_option maxRecDepth 4096 in
theorem M_peek_144_c0 {d : Nat} {n1 : Int} {Q : MV → Wd → Prop} {w : Wd} (h : (w 144 3 ≤ w 144 4 → Q (mI ((-1))) w) ∧ (¬ (w 144 3 ≤ w 144 4) → ((0 ≤ w 144 4 ∧ w 144 4 < 1040) ∧ Q (mI (iand (w 145 (w 144 4).toNat) 255)) w))) : Wp (Cw (d + 0)) cd_M_peek (1, 0, n1) Q 0 [mR 144] [] w :=
  Wp.s (Wp.s (Wp.s (Wp.s (Wp.s ⟨fun q1 => Wp.s (Wp.s ((h.1 q1))), fun q1 => Wp.s (Wp.s (Wp.s (Wp.s (Wp.s ⟨(h.2 q1).1, Wp.s (Wp.s (Wp.s (Wp.s ((h.2 q1).2))))⟩))))⟩))))
set_option maxRecDepth 4096 in
theorem M_peek_144_en {d : Nat} {Q : MV → Wd → Prop} {w : Wd} (h : (w 144 3 ≤ w 144 4 → Q (mI ((-1))) w) ∧ (¬ (w 144 3 ≤ w 144 4) → ((0 ≤ w 144 4 ∧ w 144 4 < 1040) ∧ Q (mI (iand (w 145 (w 144 4).toNat) 255)) w))) : Cw (d + 1) 176 [mR 144] w Q :=
  Cw_in (by decide) (by decide) (Nat.le_of_ble_eq_true rfl) (fun n1 => M_peek_144_c0 h)
set_option maxRecDepth 4096 in
theorem M_isSmall_c0 {d : Nat} {n1 : Int} {Q : MV → Wd → Prop} {x0 : Int} {w : Wd} (h : (x0 < 97 → Q (mI 0) w) ∧ (¬ (x0 < 97) → ((122 < x0 → Q (mI 0) w) ∧ (¬ (122 < x0) → Q (mI 1) w)))) : Wp (Cw (d + 0)) cd_M_isSmall (2, 0, n1) Q 0 [mI x0] [] w :=
  Wp.s (Wp.s (Wp.s ⟨fun q1 => Wp.s (Wp.s ⟨Or.inl rfl, (h.1 q1)⟩), fun q1 => Wp.s (Wp.s (Wp.s ⟨fun q2 => Wp.s (Wp.s ⟨Or.inl rfl, ((h.2 q1).1 q2)⟩), fun q2 => Wp.s (Wp.s (Wp.s ⟨Or.inr rfl, ((h.2 q1).2 q2)⟩))⟩))⟩))
set_option maxRecDepth 4096 in
theorem M_isSmall_en {d : Nat} {Q : MV → Wd → Prop} {x0 : Int} {w : Wd} (h : (x0 < 97 → Q (mI 0) w) ∧ (¬ (x0 < 97) → ((122 < x0 → Q (mI 0) w) ∧ (¬ (122 < x0) → Q (mI 1) w)))) : Cw (d + 1) 177 [mI x0] w Q :=
  Cw_in (by decide) (by decide) (Nat.le_of_ble_eq_true rfl) (fun n1 => M_isSmall_c0 h)
set_option maxRecDepth 4096 in
theorem M_isDigit_c0 {d : Nat} {n1 : Int} {Q : MV → Wd → Prop} {x0 : Int} {w : Wd} (h : (x0 < 48 → Q (mI 0) w) ∧ (¬ (x0 < 48) → ((57 < x0 → Q (mI 0) w) ∧ (¬ (57 < x0) → Q (mI 1) w)))) : Wp (Cw (d + 0)) cd_M_isDigit (2, 0, n1) Q 0 [mI x0] [] w :=
  Wp.s (Wp.s (Wp.s ⟨fun q1 => Wp.s (Wp.s ⟨Or.inl rfl, (h.1 q1)⟩), fun q1 => Wp.s (Wp.s (Wp.s ⟨fun q2 => Wp.s (Wp.s ⟨Or.inl rfl, ((h.2 q1).1 q2)⟩), fun q2 => Wp.s (Wp.s (Wp.s ⟨Or.inr rfl, ((h.2 q1).2 q2)⟩))⟩))⟩))
set_option maxRecDepth 4096 in
theorem M_isDigit_en {d : Nat} {Q : MV → Wd → Prop} {x0 : Int} {w : Wd} (h : (x0 < 48 → Q (mI 0) w) ∧ (¬ (x0 < 48) → ((57 < x0 → Q (mI 0) w) ∧ (¬ (57 < x0) → Q (mI 1) w)))) : Cw (d + 1) 178 [mI x0] w Q :=
  Cw_in (by decide) (by decide) (Nat.le_of_ble_eq_true rfl) (fun n1 => M_isDigit_c0 h)
set_option maxRecDepth 4096 in
theorem M_isWord_144_c0 {d : Nat} {n1 : Int} {Q : MV → Wd → Prop} {x1 : Int} {w : Wd} (h : (¬ w 144 11 = 1 → Q (mI 0) w) ∧ (¬ (¬ w 144 11 = 1) → ((¬ cmp3 (w 144 17) x1 = 0 → Q (mI 0) w) ∧ (¬ (¬ cmp3 (w 144 17) x1 = 0) → Q (mI 1) w)))) : Wp (Cw (d + 0)) cd_M_isWord (2, 0, n1) Q 0 [mR 144, mL x1, none] [] w :=
  Wp.s (Wp.s (Wp.s (Wp.s ⟨fun q1 => Wp.s (Wp.s ⟨Or.inl rfl, (h.1 q1)⟩), fun q1 => Wp.s (Wp.s (Wp.s (Wp.s (Wp.s ⟨fun q2 => Wp.s (Wp.s ⟨Or.inl rfl, ((h.2 q1).1 q2)⟩), fun q2 => Wp.s (Wp.s (Wp.s ⟨Or.inr rfl, ((h.2 q1).2 q2)⟩))⟩))))⟩)))
set_option maxRecDepth 4096 in
theorem M_isWord_144_en {d : Nat} {Q : MV → Wd → Prop} {x1 : Int} {w : Wd} (h : (¬ w 144 11 = 1 → Q (mI 0) w) ∧ (¬ (¬ w 144 11 = 1) → ((¬ cmp3 (w 144 17) x1 = 0 → Q (mI 0) w) ∧ (¬ (¬ cmp3 (w 144 17) x1 = 0) → Q (mI 1) w)))) : Cw (d + 1) 180 [mR 144, mL x1] w Q :=
  Cw_in (by decide) (by decide) (Nat.le_of_ble_eq_true rfl) (fun n1 => M_isWord_144_c0 h)
set_option maxRecDepth 4096 in
theorem M_bad_144_c0 {d : Nat} {n1 : Int} {Q : MV → Wd → Prop} {x1 : Int} {w : Wd} (h : Q (mI 0) (ub (ub w 144 15 x1) 144 16 (w 144 12))) : Wp (Cw (d + 0)) cd_M_bad (2, 0, n1) Q 0 [mR 144, mI x1] [] w :=
  Wp.s (Wp.s (Wp.s (Wp.s (Wp.s (Wp.s (Wp.s (Wp.s (Wp.s ⟨Or.inl rfl, h⟩))))))))
set_option maxRecDepth 4096 in
theorem M_bad_144_en {d : Nat} {Q : MV → Wd → Prop} {x1 : Int} {w : Wd} (h : Q (mI 0) (ub (ub w 144 15 x1) 144 16 (w 144 12))) : Cw (d + 1) 182 [mR 144, mI x1] w Q :=
  Cw_in (by decide) (by decide) (Nat.le_of_ble_eq_true rfl) (fun n1 => M_bad_144_c0 h)
set_option maxRecDepth 4096 in
theorem M_isIn_c0 {d : Nat} {n1 : Int} {Q : MV → Wd → Prop} {x0 x1 x2 : Int} {w : Wd} (h : (x0 < x1 → Q (mI 0) w) ∧ (¬ (x0 < x1) → ((x2 < x0 → Q (mI 0) w) ∧ (¬ (x2 < x0) → Q (mI 1) w)))) : Wp (Cw (d + 0)) cd_M_isIn (2, 0, n1) Q 0 [mI x0, mI x1, mI x2] [] w :=
  Wp.s (Wp.s (Wp.s ⟨fun q1 => Wp.s (Wp.s ⟨Or.inl rfl, (h.1 q1)⟩), fun q1 => Wp.s (Wp.s (Wp.s ⟨fun q2 => Wp.s (Wp.s ⟨Or.inl rfl, ((h.2 q1).1 q2)⟩), fun q2 => Wp.s (Wp.s (Wp.s ⟨Or.inr rfl, ((h.2 q1).2 q2)⟩))⟩))⟩))
set_option maxRecDepth 4096 in
theorem M_isIn_en {d : Nat} {Q : MV → Wd → Prop} {x0 x1 x2 : Int} {w : Wd} (h : (x0 < x1 → Q (mI 0) w) ∧ (¬ (x0 < x1) → ((x2 < x0 → Q (mI 0) w) ∧ (¬ (x2 < x0) → Q (mI 1) w)))) : Cw (d + 1) 187 [mI x0, mI x1, mI x2] w Q :=
  Cw_in (by decide) (by decide) (Nat.le_of_ble_eq_true rfl) (fun n1 => M_isIn_c0 h)
set_option maxRecDepth 4096 in
theorem M_isSign_144_c0 {d : Nat} {n1 : Int} {Q : MV → Wd → Prop} {x1 : Int} {w : Wd} (h : (¬ w 144 11 = 3 → Q (mI 0) w) ∧ (¬ (¬ w 144 11 = 3) → ((¬ w 144 14 = x1 → Q (mI 0) w) ∧ (¬ (¬ w 144 14 = x1) → Q (mI 1) w)))) : Wp (Cw (d + 0)) cd_M_isSign (2, 0, n1) Q 0 [mR 144, mI x1] [] w :=
  Wp.s (Wp.s (Wp.s (Wp.s ⟨fun q1 => Wp.s (Wp.s ⟨Or.inl rfl, (h.1 q1)⟩), fun q1 => Wp.s (Wp.s (Wp.s (Wp.s ⟨fun q2 => Wp.s (Wp.s ⟨Or.inl rfl, ((h.2 q1).1 q2)⟩), fun q2 => Wp.s (Wp.s (Wp.s ⟨Or.inr rfl, ((h.2 q1).2 q2)⟩))⟩)))⟩)))
set_option maxRecDepth 4096 in
theorem M_isSign_144_en {d : Nat} {Q : MV → Wd → Prop} {x1 : Int} {w : Wd} (h : (¬ w 144 11 = 3 → Q (mI 0) w) ∧ (¬ (¬ w 144 11 = 3) → ((¬ w 144 14 = x1 → Q (mI 0) w) ∧ (¬ (¬ w 144 14 = x1) → Q (mI 1) w)))) : Cw (d + 1) 196 [mR 144, mI x1] w Q :=
  Cw_in (by decide) (by decide) (Nat.le_of_ble_eq_true rfl) (fun n1 => M_isSign_144_c0 h)
set_option maxRecDepth 4096 in
theorem X_fault_0_c0 {d : Nat} {n1 : Int} {Q : MV → Wd → Prop} {w : Wd} (h : Q (mI (w 0 2)) w) : Wp (Cw (d + 0)) cd_X_fault (1, 0, n1) Q 0 [mR 0] [] w :=
  Wp.s (Wp.s (Wp.s h))
set_option maxRecDepth 4096 in
theorem X_fault_0_en {d : Nat} {Q : MV → Wd → Prop} {w : Wd} (h : Q (mI (w 0 2)) w) : Cw (d + 1) 49 [mR 0] w Q :=
  Cw_in (by decide) (by decide) (Nat.le_of_ble_eq_true rfl) (fun n1 => X_fault_0_c0 h)
set_option maxRecDepth 4096 in
theorem M_fault_144_c0 {d : Nat} {n1 : Int} {Q : MV → Wd → Prop} {w : Wd} (h : Q (mI (w 144 15)) (ub w 144 0 0)) : Wp (Cw (d + 0)) cd_M_fault (1, 0, n1) Q 0 [mR 144] [] w :=
  Wp.s (Wp.s (Wp.s (Wp.s (Wp.s (Wp.s h)))))
set_option maxRecDepth 4096 in
theorem M_fault_144_en {d : Nat} {Q : MV → Wd → Prop} {w : Wd} (h : Q (mI (w 144 15)) (ub w 144 0 0)) : Cw (d + 1) 197 [mR 144] w Q :=
  Cw_in (by decide) (by decide) (Nat.le_of_ble_eq_true rfl) (fun n1 => M_fault_144_c0 h)
set_option maxRecDepth 4096 in
theorem M_isUnit_144_c0 {d : Nat} {n1 : Int} {Q : MV → Wd → Prop} {x1 : Int} {w : Wd} (h : (x1 < 0 → Q (mI 0) w) ∧ (¬ (x1 < 0) → ((w32 ((w 146 2) - 1) < x1 → Q (mI 0) w) ∧ (¬ (w32 ((w 146 2) - 1) < x1) → Q (mI 1) w)))) : Wp (Cw (d + 1)) cd_M_isUnit (2, 0, n1) Q 0 [mR 144, mI x1] [] w :=
  Wp.s (Wp.s (Wp.s (Wp.s (Wp.s (Wp.s ⟨(⟨by decide, (by decide : (2 : Int) < 645)⟩), Wp.s (Wp.s (Wp.s (M_isIn_en ⟨fun q1 => Wp.s ⟨Or.inl rfl, (h.1 q1)⟩, fun q1 => ⟨fun q2 => Wp.s ⟨Or.inl rfl, ((h.2 q1).1 q2)⟩, fun q2 => Wp.s ⟨Or.inr rfl, ((h.2 q1).2 q2)⟩⟩⟩)))⟩)))))
set_option maxRecDepth 4096 in
theorem M_isUnit_144_en {d : Nat} {Q : MV → Wd → Prop} {x1 : Int} {w : Wd} (h : (x1 < 0 → Q (mI 0) w) ∧ (¬ (x1 < 0) → ((w32 ((w 146 2) - 1) < x1 → Q (mI 0) w) ∧ (¬ (w32 ((w 146 2) - 1) < x1) → Q (mI 1) w)))) : Cw (d + 2) 199 [mR 144, mI x1] w Q :=
  Cw_in (by decide) (by decide) (Nat.le_of_ble_eq_true rfl) (fun n1 => M_isUnit_144_c0 h)
set_option maxRecDepth 4096 in
theorem M_throwsIf_144_c0 {d : Nat} {n1 : Int} {Q : MV → Wd → Prop} {x1 : Int} {w : Wd} (h : (x1 = 0 → ((x1 = 0 ∨ x1 = 1) ∧ Q (mI x1) (ub w 144 0 0))) ∧ (¬ (x1 = 0) → ((x1 = 0 ∨ x1 = 1) ∧ Q (mI x1) (ub w 144 0 1)))) : Wp (Cw (d + 0)) cd_M_throwsIf (2, 0, n1) Q 0 [mR 144, mI x1] [] w :=
  Wp.s (Wp.s (Wp.s ⟨fun q1 => Wp.s (Wp.s (Wp.s (Wp.s ⟨(h.1 q1).1, (h.1 q1).2⟩))), fun q1 => Wp.s (Wp.s (Wp.s (Wp.s (Wp.s ⟨(h.2 q1).1, (h.2 q1).2⟩))))⟩))
set_option maxRecDepth 4096 in
theorem M_throwsIf_144_en {d : Nat} {Q : MV → Wd → Prop} {x1 : Int} {w : Wd} (h : (x1 = 0 → ((x1 = 0 ∨ x1 = 1) ∧ Q (mI x1) (ub w 144 0 0))) ∧ (¬ (x1 = 0) → ((x1 = 0 ∨ x1 = 1) ∧ Q (mI x1) (ub w 144 0 1)))) : Cw (d + 1) 200 [mR 144, mI x1] w Q :=
  Cw_in (by decide) (by decide) (Nat.le_of_ble_eq_true rfl) (fun n1 => M_throwsIf_144_c0 h)
set_option maxRecDepth 4096 in
theorem M_sortOf_144_c0 {d : Nat} {n1 : Int} {Q : MV → Wd → Prop} {x1 : Int} {w : Wd} (h : (0 ≤ w32 ((w32 (29 + (w32 (5 * x1)))) + 1) ∧ w32 ((w32 (29 + (w32 (5 * x1)))) + 1) < 645) ∧ Q (mI (w 146 (w32 ((w32 (29 + (w32 (5 * x1)))) + 1)).toNat)) w) : Wp (Cw (d + 0)) cd_M_sortOf (1, 0, n1) Q 0 [mR 144, mI x1] [] w :=
  Wp.s (Wp.s (Wp.s (Wp.s (Wp.s (Wp.s (Wp.s (Wp.s (Wp.s (Wp.s ⟨h.1, Wp.s (h.2)⟩)))))))))
set_option maxRecDepth 4096 in
theorem M_sortOf_144_en {d : Nat} {Q : MV → Wd → Prop} {x1 : Int} {w : Wd} (h : (0 ≤ w32 ((w32 (29 + (w32 (5 * x1)))) + 1) ∧ w32 ((w32 (29 + (w32 (5 * x1)))) + 1) < 645) ∧ Q (mI (w 146 (w32 ((w32 (29 + (w32 (5 * x1)))) + 1)).toNat)) w) : Cw (d + 1) 202 [mR 144, mI x1] w Q :=
  Cw_in (by decide) (by decide) (Nat.le_of_ble_eq_true rfl) (fun n1 => M_sortOf_144_c0 h)
set_option maxRecDepth 4096 in
theorem M_spoils_144_c0 {d : Nat} {n1 : Int} {Q : MV → Wd → Prop} {x1 : Int} {w : Wd} (h : (0 ≤ w32 ((w32 (29 + (w32 (5 * x1)))) + 4) ∧ w32 ((w32 (29 + (w32 (5 * x1)))) + 4) < 645) ∧ ((0 ≤ w32 ((w32 (29 + (w32 (5 * x1)))) + 1) ∧ w32 ((w32 (29 + (w32 (5 * x1)))) + 1) < 645) ∧ ((0 ≤ w32 (23 + (w 146 (w32 ((w32 (29 + (w32 (5 * x1)))) + 1)).toNat)) ∧ w32 (23 + (w 146 (w32 ((w32 (29 + (w32 (5 * x1)))) + 1)).toNat)) < 645) ∧ Q (mI (w32 ((w 146 (w32 ((w32 (29 + (w32 (5 * x1)))) + 4)).toNat) + (w 146 (w32 (23 + (w 146 (w32 ((w32 (29 + (w32 (5 * x1)))) + 1)).toNat))).toNat)))) w))) : Wp (Cw (d + 1)) cd_M_spoils (1, 0, n1) Q 0 [mR 144, mI x1] [] w :=
  Wp.s (Wp.s (Wp.s (Wp.s (Wp.s (Wp.s (Wp.s (Wp.s (Wp.s (Wp.s ⟨h.1, Wp.s (Wp.s (Wp.s (Wp.s (Wp.s (Wp.s (M_sortOf_144_en ⟨h.2.1, Wp.s (Wp.s ⟨h.2.2.1, Wp.s (Wp.s (h.2.2.2))⟩)⟩))))))⟩)))))))))
set_option maxRecDepth 4096 in
theorem M_spoils_144_en {d : Nat} {Q : MV → Wd → Prop} {x1 : Int} {w : Wd} (h : (0 ≤ w32 ((w32 (29 + (w32 (5 * x1)))) + 4) ∧ w32 ((w32 (29 + (w32 (5 * x1)))) + 4) < 645) ∧ ((0 ≤ w32 ((w32 (29 + (w32 (5 * x1)))) + 1) ∧ w32 ((w32 (29 + (w32 (5 * x1)))) + 1) < 645) ∧ ((0 ≤ w32 (23 + (w 146 (w32 ((w32 (29 + (w32 (5 * x1)))) + 1)).toNat)) ∧ w32 (23 + (w 146 (w32 ((w32 (29 + (w32 (5 * x1)))) + 1)).toNat)) < 645) ∧ Q (mI (w32 ((w 146 (w32 ((w32 (29 + (w32 (5 * x1)))) + 4)).toNat) + (w 146 (w32 (23 + (w 146 (w32 ((w32 (29 + (w32 (5 * x1)))) + 1)).toNat))).toNat)))) w))) : Cw (d + 2) 201 [mR 144, mI x1] w Q :=
  Cw_in (by decide) (by decide) (Nat.le_of_ble_eq_true rfl) (fun n1 => M_spoils_144_c0 h)
set_option maxRecDepth 4096 in
theorem M_thrown_144_c0 {d : Nat} {n1 : Int} {Q : MV → Wd → Prop} {w : Wd} (h : Q (mI (w 144 0)) w) : Wp (Cw (d + 0)) cd_M_thrown (1, 0, n1) Q 0 [mR 144] [] w :=
  Wp.s (Wp.s (Wp.s h))
set_option maxRecDepth 4096 in
theorem M_thrown_144_en {d : Nat} {Q : MV → Wd → Prop} {w : Wd} (h : Q (mI (w 144 0)) w) : Cw (d + 1) 168 [mR 144] w Q :=
  Cw_in (by decide) (by decide) (Nat.le_of_ble_eq_true rfl) (fun n1 => M_thrown_144_c0 h)
set_option maxRecDepth 4096 in
theorem M_isWant_144_c0 {d : Nat} {n1 : Int} {Q : MV → Wd → Prop} {x1 : Int} {w : Wd} (h : (x1 < 0 → Q (mI 0) w) ∧ (¬ (x1 < 0) → ((w32 ((w 146 3) - 1) < x1 → Q (mI 0) w) ∧ (¬ (w32 ((w 146 3) - 1) < x1) → Q (mI 1) w)))) : Wp (Cw (d + 1)) cd_M_isWant (2, 0, n1) Q 0 [mR 144, mI x1] [] w :=
  Wp.s (Wp.s (Wp.s (Wp.s (Wp.s (Wp.s ⟨(⟨by decide, (by decide : (3 : Int) < 645)⟩), Wp.s (Wp.s (Wp.s (M_isIn_en ⟨fun q1 => Wp.s ⟨Or.inl rfl, (h.1 q1)⟩, fun q1 => ⟨fun q2 => Wp.s ⟨Or.inl rfl, ((h.2 q1).1 q2)⟩, fun q2 => Wp.s ⟨Or.inr rfl, ((h.2 q1).2 q2)⟩⟩⟩)))⟩)))))
set_option maxRecDepth 4096 in
theorem M_isWant_144_en {d : Nat} {Q : MV → Wd → Prop} {x1 : Int} {w : Wd} (h : (x1 < 0 → Q (mI 0) w) ∧ (¬ (x1 < 0) → ((w32 ((w 146 3) - 1) < x1 → Q (mI 0) w) ∧ (¬ (w32 ((w 146 3) - 1) < x1) → Q (mI 1) w)))) : Cw (d + 2) 204 [mR 144, mI x1] w Q :=
  Cw_in (by decide) (by decide) (Nat.le_of_ble_eq_true rfl) (fun n1 => M_isWant_144_c0 h)
set_option maxRecDepth 4096 in
theorem Village_hasPerson_4_c0 {d : Nat} {n1 : Int} {Q : MV → Wd → Prop} {x1 : Int} {w : Wd} (h : (x1 < 0 → Q (mI 0) w) ∧ (¬ (x1 < 0) → ((w 4 0 ≤ x1 → Q (mI 0) w) ∧ (¬ (w 4 0 ≤ x1) → Q (mI 1) w)))) : Wp (Cw (d + 0)) cd_Village_hasPerson (2, 0, n1) Q 0 [mR 4, mI x1] [] w :=
  Wp.s (Wp.s ⟨fun q1 => Wp.s (Wp.s ⟨Or.inl rfl, (h.1 q1)⟩), fun q1 => Wp.s (Wp.s (Wp.s (Wp.s ⟨fun q2 => Wp.s (Wp.s ⟨Or.inl rfl, ((h.2 q1).1 q2)⟩), fun q2 => Wp.s (Wp.s (Wp.s ⟨Or.inr rfl, ((h.2 q1).2 q2)⟩))⟩)))⟩)
set_option maxRecDepth 4096 in
theorem Village_hasPerson_4_en {d : Nat} {Q : MV → Wd → Prop} {x1 : Int} {w : Wd} (h : (x1 < 0 → Q (mI 0) w) ∧ (¬ (x1 < 0) → ((w 4 0 ≤ x1 → Q (mI 0) w) ∧ (¬ (w 4 0 ≤ x1) → Q (mI 1) w)))) : Cw (d + 1) 51 [mR 4, mI x1] w Q :=
  Cw_in (by decide) (by decide) (Nat.le_of_ble_eq_true rfl) (fun n1 => Village_hasPerson_4_c0 h)
set_option maxRecDepth 4096 in
theorem M_isWho_144_c0 {d : Nat} {n1 : Int} {Q : MV → Wd → Prop} {x1 : Int} {w : Wd} (h : (x1 < 0 → Q (mI 0) w) ∧ (¬ (x1 < 0) → ((w32 ((w 146 0) - 1) < x1 → Q (mI 0) w) ∧ (¬ (w32 ((w 146 0) - 1) < x1) → Q (mI 1) w)))) : Wp (Cw (d + 1)) cd_M_isWho (2, 0, n1) Q 0 [mR 144, mI x1] [] w :=
  Wp.s (Wp.s (Wp.s (Wp.s (Wp.s (Wp.s ⟨(⟨by decide, (by decide : (0 : Int) < 645)⟩), Wp.s (Wp.s (Wp.s (M_isIn_en ⟨fun q1 => Wp.s ⟨Or.inl rfl, (h.1 q1)⟩, fun q1 => ⟨fun q2 => Wp.s ⟨Or.inl rfl, ((h.2 q1).1 q2)⟩, fun q2 => Wp.s ⟨Or.inr rfl, ((h.2 q1).2 q2)⟩⟩⟩)))⟩)))))
set_option maxRecDepth 4096 in
theorem M_isWho_144_en {d : Nat} {Q : MV → Wd → Prop} {x1 : Int} {w : Wd} (h : (x1 < 0 → Q (mI 0) w) ∧ (¬ (x1 < 0) → ((w32 ((w 146 0) - 1) < x1 → Q (mI 0) w) ∧ (¬ (w32 ((w 146 0) - 1) < x1) → Q (mI 1) w)))) : Cw (d + 2) 206 [mR 144, mI x1] w Q :=
  Cw_in (by decide) (by decide) (Nat.le_of_ble_eq_true rfl) (fun n1 => M_isWho_144_c0 h)
set_option maxRecDepth 4096 in
theorem Village_hasUnit_4_c0 {d : Nat} {n1 : Int} {Q : MV → Wd → Prop} {x1 : Int} {w : Wd} (h : (x1 < 0 → Q (mI 0) w) ∧ (¬ (x1 < 0) → ((w 4 8 ≤ x1 → Q (mI 0) w) ∧ (¬ (w 4 8 ≤ x1) → Q (mI 1) w)))) : Wp (Cw (d + 0)) cd_Village_hasUnit (2, 0, n1) Q 0 [mR 4, mI x1] [] w :=
  Wp.s (Wp.s ⟨fun q1 => Wp.s (Wp.s ⟨Or.inl rfl, (h.1 q1)⟩), fun q1 => Wp.s (Wp.s (Wp.s (Wp.s ⟨fun q2 => Wp.s (Wp.s ⟨Or.inl rfl, ((h.2 q1).1 q2)⟩), fun q2 => Wp.s (Wp.s (Wp.s ⟨Or.inr rfl, ((h.2 q1).2 q2)⟩))⟩)))⟩)
set_option maxRecDepth 4096 in
theorem Village_hasUnit_4_en {d : Nat} {Q : MV → Wd → Prop} {x1 : Int} {w : Wd} (h : (x1 < 0 → Q (mI 0) w) ∧ (¬ (x1 < 0) → ((w 4 8 ≤ x1 → Q (mI 0) w) ∧ (¬ (w 4 8 ≤ x1) → Q (mI 1) w)))) : Cw (d + 1) 53 [mR 4, mI x1] w Q :=
  Cw_in (by decide) (by decide) (Nat.le_of_ble_eq_true rfl) (fun n1 => Village_hasUnit_4_c0 h)
set_option maxRecDepth 4096 in
theorem Village_hasWant_4_c0 {d : Nat} {n1 : Int} {Q : MV → Wd → Prop} {x1 : Int} {w : Wd} (h : (x1 < 0 → Q (mI 0) w) ∧ (¬ (x1 < 0) → ((w 4 11 ≤ x1 → Q (mI 0) w) ∧ (¬ (w 4 11 ≤ x1) → Q (mI 1) w)))) : Wp (Cw (d + 0)) cd_Village_hasWant (2, 0, n1) Q 0 [mR 4, mI x1] [] w :=
  Wp.s (Wp.s ⟨fun q1 => Wp.s (Wp.s ⟨Or.inl rfl, (h.1 q1)⟩), fun q1 => Wp.s (Wp.s (Wp.s (Wp.s ⟨fun q2 => Wp.s (Wp.s ⟨Or.inl rfl, ((h.2 q1).1 q2)⟩), fun q2 => Wp.s (Wp.s (Wp.s ⟨Or.inr rfl, ((h.2 q1).2 q2)⟩))⟩)))⟩)
set_option maxRecDepth 4096 in
theorem Village_hasWant_4_en {d : Nat} {Q : MV → Wd → Prop} {x1 : Int} {w : Wd} (h : (x1 < 0 → Q (mI 0) w) ∧ (¬ (x1 < 0) → ((w 4 11 ≤ x1 → Q (mI 0) w) ∧ (¬ (w 4 11 ≤ x1) → Q (mI 1) w)))) : Cw (d + 1) 54 [mR 4, mI x1] w Q :=
  Cw_in (by decide) (by decide) (Nat.le_of_ble_eq_true rfl) (fun n1 => Village_hasWant_4_c0 h)
set_option maxRecDepth 4096 in
theorem Village_ofUnit_4_c0 {d : Nat} {n1 : Int} {Q : MV → Wd → Prop} {x1 x2 : Int} {w : Wd} (h : (0 ≤ w32 ((w32 (x1 * 5)) + x2) ∧ w32 ((w32 (x1 * 5)) + x2) < 80) ∧ Q (mI (w 11 (w32 ((w32 (x1 * 5)) + x2)).toNat)) w) : Wp (Cw (d + 0)) cd_Village_ofUnit (1, 0, n1) Q 0 [mR 4, mI x1, mI x2] [] w :=
  Wp.s (Wp.s (Wp.s (Wp.s (Wp.s (Wp.s (Wp.s (Wp.s ⟨h.1, Wp.s (h.2)⟩)))))))
set_option maxRecDepth 4096 in
theorem Village_ofUnit_4_en {d : Nat} {Q : MV → Wd → Prop} {x1 x2 : Int} {w : Wd} (h : (0 ≤ w32 ((w32 (x1 * 5)) + x2) ∧ w32 ((w32 (x1 * 5)) + x2) < 80) ∧ Q (mI (w 11 (w32 ((w32 (x1 * 5)) + x2)).toNat)) w) : Cw (d + 1) 61 [mR 4, mI x1, mI x2] w Q :=
  Cw_in (by decide) (by decide) (Nat.le_of_ble_eq_true rfl) (fun n1 => Village_ofUnit_4_c0 h)
set_option maxRecDepth 4096 in
theorem Village_firsts_4_c0 {d : Nat} {n1 : Int} {Q : MV → Wd → Prop} {x1 : Int} {w : Wd} (h : (0 ≤ w32 ((w32 (x1 * 5)) + 2) ∧ w32 ((w32 (x1 * 5)) + 2) < 80) ∧ ((0 ≤ w32 ((w32 (x1 * 5)) + 1) ∧ w32 ((w32 (x1 * 5)) + 1) < 80) ∧ ((¬ w 11 (w32 ((w32 (x1 * 5)) + 2)).toNat = (-1) → Q (mI (ior (ishl 1 (w 11 (w32 ((w32 (x1 * 5)) + 1)).toNat)) (ishl 1 (w 11 (w32 ((w32 (x1 * 5)) + 2)).toNat)))) w) ∧ (¬ (¬ w 11 (w32 ((w32 (x1 * 5)) + 2)).toNat = (-1)) → Q (mI (ior (ishl 1 (w 11 (w32 ((w32 (x1 * 5)) + 1)).toNat)) 0)) w)))) : Wp (Cw (d + 1)) cd_Village_firsts (1, 0, n1) Q 0 [mR 4, mI x1, none] [] w :=
  Wp.s (Wp.s (Wp.s (Wp.s (Village_ofUnit_4_en ⟨h.1, Wp.s (Wp.s (Wp.s (Wp.s (Wp.s (Wp.s (Village_ofUnit_4_en ⟨h.2.1, Wp.s (Wp.s (Wp.s (Wp.s ⟨fun q1 => Wp.s (Wp.s (Wp.s (Wp.s (Wp.s ((h.2.2.1 q1)))))), fun q1 => Wp.s (Wp.s (Wp.s (Wp.s ((h.2.2.2 q1)))))⟩)))⟩))))))⟩))))
set_option maxRecDepth 4096 in
theorem Village_firsts_4_en {d : Nat} {Q : MV → Wd → Prop} {x1 : Int} {w : Wd} (h : (0 ≤ w32 ((w32 (x1 * 5)) + 2) ∧ w32 ((w32 (x1 * 5)) + 2) < 80) ∧ ((0 ≤ w32 ((w32 (x1 * 5)) + 1) ∧ w32 ((w32 (x1 * 5)) + 1) < 80) ∧ ((¬ w 11 (w32 ((w32 (x1 * 5)) + 2)).toNat = (-1) → Q (mI (ior (ishl 1 (w 11 (w32 ((w32 (x1 * 5)) + 1)).toNat)) (ishl 1 (w 11 (w32 ((w32 (x1 * 5)) + 2)).toNat)))) w) ∧ (¬ (¬ w 11 (w32 ((w32 (x1 * 5)) + 2)).toNat = (-1)) → Q (mI (ior (ishl 1 (w 11 (w32 ((w32 (x1 * 5)) + 1)).toNat)) 0)) w)))) : Cw (d + 2) 60 [mR 4, mI x1] w Q :=
  Cw_in (by decide) (by decide) (Nat.le_of_ble_eq_true rfl) (fun n1 => Village_firsts_4_c0 h)
set_option maxRecDepth 4096 in
theorem Village_ofWant_4_c0 {d : Nat} {n1 : Int} {Q : MV → Wd → Prop} {x1 x2 : Int} {w : Wd} (h : (0 ≤ w32 ((w32 (x1 * 4)) + x2) ∧ w32 ((w32 (x1 * 4)) + x2) < 32) ∧ Q (mI (w 13 (w32 ((w32 (x1 * 4)) + x2)).toNat)) w) : Wp (Cw (d + 0)) cd_Village_ofWant (1, 0, n1) Q 0 [mR 4, mI x1, mI x2] [] w :=
  Wp.s (Wp.s (Wp.s (Wp.s (Wp.s (Wp.s (Wp.s (Wp.s ⟨h.1, Wp.s (h.2)⟩)))))))
set_option maxRecDepth 4096 in
theorem Village_ofWant_4_en {d : Nat} {Q : MV → Wd → Prop} {x1 x2 : Int} {w : Wd} (h : (0 ≤ w32 ((w32 (x1 * 4)) + x2) ∧ w32 ((w32 (x1 * 4)) + x2) < 32) ∧ Q (mI (w 13 (w32 ((w32 (x1 * 4)) + x2)).toNat)) w) : Cw (d + 1) 63 [mR 4, mI x1, mI x2] w Q :=
  Cw_in (by decide) (by decide) (Nat.le_of_ble_eq_true rfl) (fun n1 => Village_ofWant_4_c0 h)
set_option maxRecDepth 4096 in
theorem X_has_c0 {d : Nat} {n1 : Int} {Q : MV → Wd → Prop} {x0 x1 : Int} {w : Wd} (h : (iand (ishr x0 x1) 1 = 0 → Q (mI 0) w) ∧ (¬ (iand (ishr x0 x1) 1 = 0) → Q (mI 1) w)) : Wp (Cw (d + 0)) cd_X_has (2, 0, n1) Q 0 [mI x0, mI x1] [] w :=
  Wp.s (Wp.s (Wp.s (Wp.s (Wp.s (Wp.s ⟨fun q1 => Wp.s (Wp.s ⟨Or.inl rfl, (h.1 q1)⟩), fun q1 => Wp.s (Wp.s (Wp.s ⟨Or.inr rfl, (h.2 q1)⟩))⟩)))))
set_option maxRecDepth 4096 in
theorem X_has_en {d : Nat} {Q : MV → Wd → Prop} {x0 x1 : Int} {w : Wd} (h : (iand (ishr x0 x1) 1 = 0 → Q (mI 0) w) ∧ (¬ (iand (ishr x0 x1) 1 = 0) → Q (mI 1) w)) : Cw (d + 1) 66 [mI x0, mI x1] w Q :=
  Cw_in (by decide) (by decide) (Nat.le_of_ble_eq_true rfl) (fun n1 => X_has_c0 h)
set_option maxRecDepth 4096 in
theorem Ways_asking_c0 {d : Nat} {n1 : Int} {Q : MV → Wd → Prop} {x0 x2 : Int} {w : Wd} (h : (¬ cmp3 x0 9223372036854775807 = 0 → Q (mL (w64 (x0 + (lshl x2 24)))) w) ∧ (¬ (¬ cmp3 x0 9223372036854775807 = 0) → Q (mL 9223372036854775807) w)) : Wp (Cw (d + 0)) cd_Ways_asking (3, 0, n1) Q 0 [mL x0, none, mI x2] [] w :=
  Wp.s (Wp.s (Wp.s (Wp.s ⟨fun q1 => Wp.s (Wp.s (Wp.s (Wp.s (Wp.s (Wp.s (Wp.s ((h.1 q1)))))))), fun q1 => Wp.s (Wp.s (Wp.s ((h.2 q1))))⟩)))
set_option maxRecDepth 4096 in
theorem Ways_asking_en {d : Nat} {Q : MV → Wd → Prop} {x0 x2 : Int} {w : Wd} (h : (¬ cmp3 x0 9223372036854775807 = 0 → Q (mL (w64 (x0 + (lshl x2 24)))) w) ∧ (¬ (¬ cmp3 x0 9223372036854775807 = 0) → Q (mL 9223372036854775807) w)) : Cw (d + 1) 71 [mL x0, mI x2] w Q :=
  Cw_in (by decide) (by decide) (Nat.le_of_ble_eq_true rfl) (fun n1 => Ways_asking_c0 h)
set_option maxRecDepth 4096 in
theorem Meeting_taken_92_c0 {d : Nat} {n1 : Int} {Q : MV → Wd → Prop} {x1 x2 : Int} {w : Wd} (h : (0 ≤ w32 ((w32 (x1 * 8)) + x2) ∧ w32 ((w32 (x1 * 8)) + x2) < 128) ∧ Q (mL (w 107 (w32 ((w32 (x1 * 8)) + x2)).toNat)) w) : Wp (Cw (d + 0)) cd_Meeting_taken (3, 0, n1) Q 0 [mR 92, mI x1, mI x2] [] w :=
  Wp.s (Wp.s (Wp.s (Wp.s (Wp.s (Wp.s (Wp.s (Wp.s ⟨h.1, Wp.s (h.2)⟩)))))))
set_option maxRecDepth 4096 in
theorem Meeting_taken_92_en {d : Nat} {Q : MV → Wd → Prop} {x1 x2 : Int} {w : Wd} (h : (0 ≤ w32 ((w32 (x1 * 8)) + x2) ∧ w32 ((w32 (x1 * 8)) + x2) < 128) ∧ Q (mL (w 107 (w32 ((w32 (x1 * 8)) + x2)).toNat)) w) : Cw (d + 1) 77 [mR 92, mI x1, mI x2] w Q :=
  Cw_in (by decide) (by decide) (Nat.le_of_ble_eq_true rfl) (fun n1 => Meeting_taken_92_c0 h)
set_option maxRecDepth 4096 in
theorem Ways_cost_c0 {d : Nat} {n1 : Int} {Q : MV → Wd → Prop} {x0 : Int} {w : Wd} (h : Q (mI (w32 (lushr x0 24))) w) : Wp (Cw (d + 0)) cd_Ways_cost (1, 0, n1) Q 0 [mL x0, none] [] w :=
  Wp.s (Wp.s (Wp.s (Wp.s (Wp.s h))))
set_option maxRecDepth 4096 in
theorem Ways_cost_en {d : Nat} {Q : MV → Wd → Prop} {x0 : Int} {w : Wd} (h : Q (mI (w32 (lushr x0 24))) w) : Cw (d + 1) 78 [mL x0] w Q :=
  Cw_in (by decide) (by decide) (Nat.le_of_ble_eq_true rfl) (fun n1 => Ways_cost_c0 h)
set_option maxRecDepth 4096 in
theorem Meeting_digitOf_c0 {d : Nat} {n1 : Int} {Q : MV → Wd → Prop} {x0 : Int} {w : Wd} (h : Q (mI (w32 (5 * (w32 (7 - x0))))) w) : Wp (Cw (d + 0)) cd_Meeting_digitOf (1, 0, n1) Q 0 [mI x0] [] w :=
  Wp.s (Wp.s (Wp.s (Wp.s (Wp.s (Wp.s h)))))
set_option maxRecDepth 4096 in
theorem Meeting_digitOf_en {d : Nat} {Q : MV → Wd → Prop} {x0 : Int} {w : Wd} (h : Q (mI (w32 (5 * (w32 (7 - x0))))) w) : Cw (d + 1) 79 [mI x0] w Q :=
  Cw_in (by decide) (by decide) (Nat.le_of_ble_eq_true rfl) (fun n1 => Meeting_digitOf_c0 h)
set_option maxRecDepth 4096 in
theorem Ways_path_c0 {d : Nat} {n1 : Int} {Q : MV → Wd → Prop} {x0 : Int} {w : Wd} (h : Q (mI (iand (w32 x0) 262143)) w) : Wp (Cw (d + 0)) cd_Ways_path (1, 0, n1) Q 0 [mL x0, none] [] w :=
  Wp.s (Wp.s (Wp.s (Wp.s (Wp.s h))))
set_option maxRecDepth 4096 in
theorem Ways_path_en {d : Nat} {Q : MV → Wd → Prop} {x0 : Int} {w : Wd} (h : Q (mI (iand (w32 x0) 262143)) w) : Cw (d + 1) 80 [mL x0] w Q :=
  Cw_in (by decide) (by decide) (Nat.le_of_ble_eq_true rfl) (fun n1 => Ways_path_c0 h)
set_option maxRecDepth 4096 in
theorem Ways_handOf_c0 {d : Nat} {n1 : Int} {Q : MV → Wd → Prop} {x0 x1 x2 : Int} {w : Wd} (h : Q (mI (iand (ishr x0 (w32 (3 * (w32 ((w32 (x2 - 1)) - x1))))) 7)) w) : Wp (Cw (d + 0)) cd_Ways_handOf (1, 0, n1) Q 0 [mI x0, mI x1, mI x2] [] w :=
  Wp.s (Wp.s (Wp.s (Wp.s (Wp.s (Wp.s (Wp.s (Wp.s (Wp.s (Wp.s (Wp.s (Wp.s h)))))))))))
set_option maxRecDepth 4096 in
theorem Ways_handOf_en {d : Nat} {Q : MV → Wd → Prop} {x0 x1 x2 : Int} {w : Wd} (h : Q (mI (iand (ishr x0 (w32 (3 * (w32 ((w32 (x2 - 1)) - x1))))) 7)) w) : Cw (d + 1) 82 [mI x0, mI x1, mI x2] w Q :=
  Cw_in (by decide) (by decide) (Nat.le_of_ble_eq_true rfl) (fun n1 => Ways_handOf_c0 h)
set_option maxRecDepth 4096 in
theorem Ways_hours_c0 {d : Nat} {n1 : Int} {Q : MV → Wd → Prop} {x0 : Int} {w : Wd} (h : Q (mI (iand (w32 (lushr x0 18)) 63)) w) : Wp (Cw (d + 0)) cd_Ways_hours (1, 0, n1) Q 0 [mL x0, none] [] w :=
  Wp.s (Wp.s (Wp.s (Wp.s (Wp.s (Wp.s (Wp.s h))))))
set_option maxRecDepth 4096 in
theorem Ways_hours_en {d : Nat} {Q : MV → Wd → Prop} {x0 : Int} {w : Wd} (h : Q (mI (iand (w32 (lushr x0 18)) 63)) w) : Cw (d + 1) 83 [mL x0] w Q :=
  Cw_in (by decide) (by decide) (Nat.le_of_ble_eq_true rfl) (fun n1 => Ways_hours_c0 h)
set_option maxRecDepth 4096 in
theorem M_has_c0 {d : Nat} {n1 : Int} {Q : MV → Wd → Prop} {x0 x1 : Int} {w : Wd} (h : (¬ iand (ishr x0 x1) 1 = 1 → Q (mI 0) w) ∧ (¬ (¬ iand (ishr x0 x1) 1 = 1) → Q (mI 1) w)) : Wp (Cw (d + 0)) cd_M_has (2, 0, n1) Q 0 [mI x0, mI x1] [] w :=
  Wp.s (Wp.s (Wp.s (Wp.s (Wp.s (Wp.s (Wp.s ⟨fun q1 => Wp.s (Wp.s ⟨Or.inl rfl, (h.1 q1)⟩), fun q1 => Wp.s (Wp.s (Wp.s ⟨Or.inr rfl, (h.2 q1)⟩))⟩))))))
set_option maxRecDepth 4096 in
theorem M_has_en {d : Nat} {Q : MV → Wd → Prop} {x0 x1 : Int} {w : Wd} (h : (¬ iand (ishr x0 x1) 1 = 1 → Q (mI 0) w) ∧ (¬ (¬ iand (ishr x0 x1) 1 = 1) → Q (mI 1) w)) : Cw (d + 1) 211 [mI x0, mI x1] w Q :=
  Cw_in (by decide) (by decide) (Nat.le_of_ble_eq_true rfl) (fun n1 => M_has_c0 h)
set_option maxRecDepth 4096 in
theorem M_away_144_c0 {d : Nat} {n1 : Int} {Q : MV → Wd → Prop} {x1 : Int} {w : Wd} (h : (0 ≤ x1 ∧ x1 < 6) ∧ ((0 ≤ w 155 x1.toNat ∧ w 155 x1.toNat < 8) ∧ ((0 ≤ w 155 x1.toNat ∧ w 155 x1.toNat < 8) ∧ ((¬ w 144 26 = 3 → Q none (ub (ub w 160 (w 155 x1.toNat).toNat (w32 ((w 160 (w 155 x1.toNat).toNat) - 1))) 144 34 (ixor (w 144 34) 0))) ∧ (¬ (¬ w 144 26 = 3) → ((0 ≤ x1 ∧ x1 < 6) ∧ ((0 ≤ w32 (7 + (w 155 x1.toNat)) ∧ w32 (7 + (w 155 x1.toNat)) < 645) ∧ Q none (ub (ub w 160 (w 155 x1.toNat).toNat (w32 ((w 160 (w 155 x1.toNat).toNat) - 1))) 144 34 (ixor (w 144 34) (ishl 1 (w 146 (w32 (7 + (w 155 x1.toNat))).toNat))))))))))) : Wp (Cw (d + 0)) cd_M_away (0, 0, n1) Q 0 [mR 144, mI x1] [] w :=
  Wp.s (Wp.s (Wp.s (Wp.s (Wp.s (Wp.s ⟨h.1, Wp.s (Wp.s ⟨h.2.1, Wp.s (Wp.s (Wp.s ⟨h.2.2.1, Wp.s (Wp.s (Wp.s (Wp.s (Wp.s (Wp.s (Wp.s ⟨fun q1 => Wp.s (Wp.s (Wp.s (Wp.s ((h.2.2.2.1 q1))))), fun q1 => Wp.s (Wp.s (Wp.s (Wp.s (Wp.s (Wp.s (Wp.s (Wp.s ⟨(h.2.2.2.2 q1).1, Wp.s (Wp.s ⟨(h.2.2.2.2 q1).2.1, Wp.s (Wp.s (Wp.s (Wp.s (Wp.s ((h.2.2.2.2 q1).2.2)))))⟩)⟩)))))))⟩))))))⟩))⟩)⟩)))))
set_option maxRecDepth 4096 in
theorem M_away_144_en {d : Nat} {Q : MV → Wd → Prop} {x1 : Int} {w : Wd} (h : (0 ≤ x1 ∧ x1 < 6) ∧ ((0 ≤ w 155 x1.toNat ∧ w 155 x1.toNat < 8) ∧ ((0 ≤ w 155 x1.toNat ∧ w 155 x1.toNat < 8) ∧ ((¬ w 144 26 = 3 → Q none (ub (ub w 160 (w 155 x1.toNat).toNat (w32 ((w 160 (w 155 x1.toNat).toNat) - 1))) 144 34 (ixor (w 144 34) 0))) ∧ (¬ (¬ w 144 26 = 3) → ((0 ≤ x1 ∧ x1 < 6) ∧ ((0 ≤ w32 (7 + (w 155 x1.toNat)) ∧ w32 (7 + (w 155 x1.toNat)) < 645) ∧ Q none (ub (ub w 160 (w 155 x1.toNat).toNat (w32 ((w 160 (w 155 x1.toNat).toNat) - 1))) 144 34 (ixor (w 144 34) (ishl 1 (w 146 (w32 (7 + (w 155 x1.toNat))).toNat))))))))))) : Cw (d + 1) 215 [mR 144, mI x1] w Q :=
  Cw_in (by decide) (by decide) (Nat.le_of_ble_eq_true rfl) (fun n1 => M_away_144_c0 h)
set_option maxRecDepth 4096 in
theorem M_isFirst_144_c0 {d : Nat} {n1 : Int} {Q : MV → Wd → Prop} {x1 x2 : Int} {w : Wd} (h : (0 ≤ w32 ((w32 (29 + (w32 (5 * x1)))) + 2) ∧ w32 ((w32 (29 + (w32 (5 * x1)))) + 2) < 645) ∧ ((w 146 (w32 ((w32 (29 + (w32 (5 * x1)))) + 2)).toNat = x2 → Q (mI 1) w) ∧ (¬ (w 146 (w32 ((w32 (29 + (w32 (5 * x1)))) + 2)).toNat = x2) → ((0 ≤ w32 ((w32 (29 + (w32 (5 * x1)))) + 3) ∧ w32 ((w32 (29 + (w32 (5 * x1)))) + 3) < 645) ∧ ((¬ w 146 (w32 ((w32 (29 + (w32 (5 * x1)))) + 3)).toNat = x2 → Q (mI 0) w) ∧ (¬ (¬ w 146 (w32 ((w32 (29 + (w32 (5 * x1)))) + 3)).toNat = x2) → Q (mI 1) w)))))) : Wp (Cw (d + 0)) cd_M_isFirst (2, 0, n1) Q 0 [mR 144, mI x1, mI x2] [] w :=
  Wp.s (Wp.s (Wp.s (Wp.s (Wp.s (Wp.s (Wp.s (Wp.s (Wp.s (Wp.s ⟨h.1, Wp.s (Wp.s ⟨fun q1 => Wp.s (Wp.s (Wp.s ⟨Or.inr rfl, (h.2.1 q1)⟩)), fun q1 => Wp.s (Wp.s (Wp.s (Wp.s (Wp.s (Wp.s (Wp.s (Wp.s (Wp.s (Wp.s ⟨(h.2.2 q1).1, Wp.s (Wp.s ⟨fun q2 => Wp.s (Wp.s ⟨Or.inl rfl, ((h.2.2 q1).2.1 q2)⟩), fun q2 => Wp.s (Wp.s (Wp.s ⟨Or.inr rfl, ((h.2.2 q1).2.2 q2)⟩))⟩)⟩)))))))))⟩)⟩)))))))))
set_option maxRecDepth 4096 in
theorem M_isFirst_144_en {d : Nat} {Q : MV → Wd → Prop} {x1 x2 : Int} {w : Wd} (h : (0 ≤ w32 ((w32 (29 + (w32 (5 * x1)))) + 2) ∧ w32 ((w32 (29 + (w32 (5 * x1)))) + 2) < 645) ∧ ((w 146 (w32 ((w32 (29 + (w32 (5 * x1)))) + 2)).toNat = x2 → Q (mI 1) w) ∧ (¬ (w 146 (w32 ((w32 (29 + (w32 (5 * x1)))) + 2)).toNat = x2) → ((0 ≤ w32 ((w32 (29 + (w32 (5 * x1)))) + 3) ∧ w32 ((w32 (29 + (w32 (5 * x1)))) + 3) < 645) ∧ ((¬ w 146 (w32 ((w32 (29 + (w32 (5 * x1)))) + 3)).toNat = x2 → Q (mI 0) w) ∧ (¬ (¬ w 146 (w32 ((w32 (29 + (w32 (5 * x1)))) + 3)).toNat = x2) → Q (mI 1) w)))))) : Cw (d + 1) 217 [mR 144, mI x1, mI x2] w Q :=
  Cw_in (by decide) (by decide) (Nat.le_of_ble_eq_true rfl) (fun n1 => M_isFirst_144_c0 h)
set_option maxRecDepth 4096 in
theorem M_lastHour_144_c0 {d : Nat} {n1 : Int} {Q : MV → Wd → Prop} {x1 x2 : Int} {w : Wd} (h : (0 ≤ w32 ((w32 (109 + (w32 (4 * x2)))) + 3) ∧ w32 ((w32 (109 + (w32 (4 * x2)))) + 3) < 645) ∧ ((0 ≤ w32 ((w32 (29 + (w32 (5 * x1)))) + 4) ∧ w32 ((w32 (29 + (w32 (5 * x1)))) + 4) < 645) ∧ ((0 ≤ w32 ((w32 (29 + (w32 (5 * x1)))) + 1) ∧ w32 ((w32 (29 + (w32 (5 * x1)))) + 1) < 645) ∧ ((0 ≤ w32 (23 + (w 146 (w32 ((w32 (29 + (w32 (5 * x1)))) + 1)).toNat)) ∧ w32 (23 + (w 146 (w32 ((w32 (29 + (w32 (5 * x1)))) + 1)).toNat)) < 645) ∧ ((w32 ((w32 ((w 146 (w32 ((w32 (29 + (w32 (5 * x1)))) + 4)).toNat) + (w 146 (w32 (23 + (w 146 (w32 ((w32 (29 + (w32 (5 * x1)))) + 1)).toNat))).toNat))) - 1) ≤ w 146 (w32 ((w32 (109 + (w32 (4 * x2)))) + 3)).toNat → Q (mI (w32 ((w32 ((w 146 (w32 ((w32 (29 + (w32 (5 * x1)))) + 4)).toNat) + (w 146 (w32 (23 + (w 146 (w32 ((w32 (29 + (w32 (5 * x1)))) + 1)).toNat))).toNat))) - 1))) w) ∧ (¬ (w32 ((w32 ((w 146 (w32 ((w32 (29 + (w32 (5 * x1)))) + 4)).toNat) + (w 146 (w32 (23 + (w 146 (w32 ((w32 (29 + (w32 (5 * x1)))) + 1)).toNat))).toNat))) - 1) ≤ w 146 (w32 ((w32 (109 + (w32 (4 * x2)))) + 3)).toNat) → Q (mI (w 146 (w32 ((w32 (109 + (w32 (4 * x2)))) + 3)).toNat)) w)))))) : Wp (Cw (d + 2)) cd_M_lastHour (1, 0, n1) Q 0 [mR 144, mI x1, mI x2, none, none] [] w :=
  Wp.s (Wp.s (Wp.s (Wp.s (Wp.s (Wp.s (Wp.s (Wp.s (Wp.s (Wp.s ⟨h.1, Wp.s (Wp.s (Wp.s (Wp.s (M_spoils_144_en ⟨h.2.1, ⟨h.2.2.1, ⟨h.2.2.2.1, Wp.s (Wp.s (Wp.s (Wp.s (Wp.s (Wp.s ⟨fun q1 => Wp.s (Wp.s ((h.2.2.2.2.1 q1))), fun q1 => Wp.s (Wp.s (Wp.s ((h.2.2.2.2.2 q1))))⟩)))))⟩⟩⟩))))⟩)))))))))
set_option maxRecDepth 4096 in
theorem M_lastHour_144_en {d : Nat} {Q : MV → Wd → Prop} {x1 x2 : Int} {w : Wd} (h : (0 ≤ w32 ((w32 (109 + (w32 (4 * x2)))) + 3) ∧ w32 ((w32 (109 + (w32 (4 * x2)))) + 3) < 645) ∧ ((0 ≤ w32 ((w32 (29 + (w32 (5 * x1)))) + 4) ∧ w32 ((w32 (29 + (w32 (5 * x1)))) + 4) < 645) ∧ ((0 ≤ w32 ((w32 (29 + (w32 (5 * x1)))) + 1) ∧ w32 ((w32 (29 + (w32 (5 * x1)))) + 1) < 645) ∧ ((0 ≤ w32 (23 + (w 146 (w32 ((w32 (29 + (w32 (5 * x1)))) + 1)).toNat)) ∧ w32 (23 + (w 146 (w32 ((w32 (29 + (w32 (5 * x1)))) + 1)).toNat)) < 645) ∧ ((w32 ((w32 ((w 146 (w32 ((w32 (29 + (w32 (5 * x1)))) + 4)).toNat) + (w 146 (w32 (23 + (w 146 (w32 ((w32 (29 + (w32 (5 * x1)))) + 1)).toNat))).toNat))) - 1) ≤ w 146 (w32 ((w32 (109 + (w32 (4 * x2)))) + 3)).toNat → Q (mI (w32 ((w32 ((w 146 (w32 ((w32 (29 + (w32 (5 * x1)))) + 4)).toNat) + (w 146 (w32 (23 + (w 146 (w32 ((w32 (29 + (w32 (5 * x1)))) + 1)).toNat))).toNat))) - 1))) w) ∧ (¬ (w32 ((w32 ((w 146 (w32 ((w32 (29 + (w32 (5 * x1)))) + 4)).toNat) + (w 146 (w32 (23 + (w 146 (w32 ((w32 (29 + (w32 (5 * x1)))) + 1)).toNat))).toNat))) - 1) ≤ w 146 (w32 ((w32 (109 + (w32 (4 * x2)))) + 3)).toNat) → Q (mI (w 146 (w32 ((w32 (109 + (w32 (4 * x2)))) + 3)).toNat)) w)))))) : Cw (d + 3) 219 [mR 144, mI x1, mI x2] w Q :=
  Cw_in (by decide) (by decide) (Nat.le_of_ble_eq_true rfl) (fun n1 => M_lastHour_144_c0 h)
set_option maxRecDepth 4096 in
theorem M_isWay_144_c0 {d : Nat} {n1 : Int} {Q : MV → Wd → Prop} {x1 x2 : Int} {w : Wd} (h : (0 ≤ w32 ((w32 (8 * x1)) + x2) ∧ w32 ((w32 (8 * x1)) + x2) < 128) ∧ ((1000000000 ≤ w 161 (w32 ((w32 (8 * x1)) + x2)).toNat → Q (mI 0) w) ∧ (¬ (1000000000 ≤ w 161 (w32 ((w32 (8 * x1)) + x2)).toNat) → Q (mI 1) w))) : Wp (Cw (d + 0)) cd_M_isWay (2, 0, n1) Q 0 [mR 144, mI x1, mI x2] [] w :=
  Wp.s (Wp.s (Wp.s (Wp.s (Wp.s (Wp.s (Wp.s (Wp.s ⟨h.1, Wp.s (Wp.s ⟨fun q1 => Wp.s (Wp.s ⟨Or.inl rfl, (h.2.1 q1)⟩), fun q1 => Wp.s (Wp.s (Wp.s ⟨Or.inr rfl, (h.2.2 q1)⟩))⟩)⟩)))))))
set_option maxRecDepth 4096 in
theorem M_isWay_144_en {d : Nat} {Q : MV → Wd → Prop} {x1 x2 : Int} {w : Wd} (h : (0 ≤ w32 ((w32 (8 * x1)) + x2) ∧ w32 ((w32 (8 * x1)) + x2) < 128) ∧ ((1000000000 ≤ w 161 (w32 ((w32 (8 * x1)) + x2)).toNat → Q (mI 0) w) ∧ (¬ (1000000000 ≤ w 161 (w32 ((w32 (8 * x1)) + x2)).toNat) → Q (mI 1) w))) : Cw (d + 1) 220 [mR 144, mI x1, mI x2] w Q :=
  Cw_in (by decide) (by decide) (Nat.le_of_ble_eq_true rfl) (fun n1 => M_isWay_144_c0 h)
set_option maxRecDepth 4096 in
theorem X_hand_0_c0 {d : Nat} {n1 : Int} {Q : MV → Wd → Prop} {x1 : Int} {w : Wd} (h : (x1 < 0 → Q (mI ((-1))) w) ∧ (¬ (x1 < 0) → ((x1 < w 140 1 → ((0 ≤ x1 ∧ x1 < 6) ∧ Q (mI (w 141 x1.toNat)) w)) ∧ (¬ (x1 < w 140 1) → Q (mI ((-1))) w)))) : Wp (Cw (d + 0)) cd_X_hand (1, 0, n1) Q 0 [mR 0, mI x1] [] w :=
  Wp.s (Wp.s ⟨fun q1 => Wp.s (Wp.s (Wp.s ((h.1 q1)))), fun q1 => Wp.s (Wp.s (Wp.s (Wp.s (Wp.s ⟨fun q2 => Wp.s (Wp.s (Wp.s (Wp.s (Wp.s ⟨((h.2 q1).1 q2).1, Wp.s (((h.2 q1).1 q2).2)⟩)))), fun q2 => Wp.s (Wp.s (Wp.s (((h.2 q1).2 q2))))⟩))))⟩)
set_option maxRecDepth 4096 in
theorem X_hand_0_en {d : Nat} {Q : MV → Wd → Prop} {x1 : Int} {w : Wd} (h : (x1 < 0 → Q (mI ((-1))) w) ∧ (¬ (x1 < 0) → ((x1 < w 140 1 → ((0 ≤ x1 ∧ x1 < 6) ∧ Q (mI (w 141 x1.toNat)) w)) ∧ (¬ (x1 < w 140 1) → Q (mI ((-1))) w)))) : Cw (d + 1) 85 [mR 0, mI x1] w Q :=
  Cw_in (by decide) (by decide) (Nat.le_of_ble_eq_true rfl) (fun n1 => X_hand_0_c0 h)
set_option maxRecDepth 4096 in
theorem M_hand_144_c0 {d : Nat} {n1 : Int} {Q : MV → Wd → Prop} {x1 : Int} {w : Wd} (h : (x1 < 0 → Q (mI ((-1))) (ub w 144 0 0)) ∧ (¬ (x1 < 0) → ((w32 ((w 144 42) - 1) < x1 → Q (mI ((-1))) (ub w 144 0 0)) ∧ (¬ (w32 ((w 144 42) - 1) < x1) → Q (mI (iand (ishr (w 144 41) (w32 (3 * x1))) 7)) (ub w 144 0 0))))) : Wp (Cw (d + 1)) cd_M_hand (1, 0, n1) Q 0 [mR 144, mI x1] [] w :=
  Wp.s (Wp.s (Wp.s (Wp.s (Wp.s (Wp.s (Wp.s (Wp.s (Wp.s (Wp.s (M_isIn_en ⟨fun q1 => Wp.s ⟨fun _ => Wp.s (Wp.s ((h.1 q1))), fun q => absurd (cn_yes rfl) q⟩, fun q1 => ⟨fun q2 => Wp.s ⟨fun _ => Wp.s (Wp.s (((h.2 q1).1 q2))), fun q => absurd (cn_yes rfl) q⟩, fun q2 => Wp.s ⟨fun q => absurd q (cn_no rfl), fun _ => Wp.s (Wp.s (Wp.s (Wp.s (Wp.s (Wp.s (Wp.s (Wp.s (Wp.s (Wp.s (((h.2 q1).2 q2)))))))))))⟩⟩⟩))))))))))
set_option maxRecDepth 4096 in
theorem M_hand_144_en {d : Nat} {Q : MV → Wd → Prop} {x1 : Int} {w : Wd} (h : (x1 < 0 → Q (mI ((-1))) (ub w 144 0 0)) ∧ (¬ (x1 < 0) → ((w32 ((w 144 42) - 1) < x1 → Q (mI ((-1))) (ub w 144 0 0)) ∧ (¬ (w32 ((w 144 42) - 1) < x1) → Q (mI (iand (ishr (w 144 41) (w32 (3 * x1))) 7)) (ub w 144 0 0))))) : Cw (d + 2) 221 [mR 144, mI x1] w Q :=
  Cw_in (by decide) (by decide) (Nat.le_of_ble_eq_true rfl) (fun n1 => M_hand_144_c0 h)
set_option maxRecDepth 4096 in
theorem Meeting_sum_92_c0 {d : Nat} {n1 : Int} {Q : MV → Wd → Prop} {w : Wd} (h : Q (mI (w32 (lshr (w 92 7) 44))) w) : Wp (Cw (d + 0)) cd_Meeting_sum (1, 0, n1) Q 0 [mR 92] [] w :=
  Wp.s (Wp.s (Wp.s (Wp.s (Wp.s (Wp.s h)))))
set_option maxRecDepth 4096 in
theorem Meeting_sum_92_en {d : Nat} {Q : MV → Wd → Prop} {w : Wd} (h : Q (mI (w32 (lshr (w 92 7) 44))) w) : Cw (d + 1) 92 [mR 92] w Q :=
  Cw_in (by decide) (by decide) (Nat.le_of_ble_eq_true rfl) (fun n1 => Meeting_sum_92_c0 h)
set_option maxRecDepth 4096 in
theorem Meeting_metCount_92_c0 {d : Nat} {n1 : Int} {Q : MV → Wd → Prop} {w : Wd} (h : Q (mI (iand (w32 (lshr (w 92 7) 40)) 15)) w) : Wp (Cw (d + 0)) cd_Meeting_metCount (1, 0, n1) Q 0 [mR 92] [] w :=
  Wp.s (Wp.s (Wp.s (Wp.s (Wp.s (Wp.s (Wp.s (Wp.s h)))))))
set_option maxRecDepth 4096 in
theorem Meeting_metCount_92_en {d : Nat} {Q : MV → Wd → Prop} {w : Wd} (h : Q (mI (iand (w32 (lshr (w 92 7) 40)) 15)) w) : Cw (d + 1) 93 [mR 92] w Q :=
  Cw_in (by decide) (by decide) (Nat.le_of_ble_eq_true rfl) (fun n1 => Meeting_metCount_92_c0 h)
set_option maxRecDepth 4096 in
theorem Meeting_unitFor_92_c0 {d : Nat} {n1 : Int} {Q : MV → Wd → Prop} {x1 : Int} {w : Wd} (h : (¬ iand (w32 (lshr (w 92 7) (w32 (5 * (w32 (7 - x1)))))) 31 = 0 → Q (mI (w32 (16 - (iand (w32 (lshr (w 92 7) (w32 (5 * (w32 (7 - x1)))))) 31)))) w) ∧ (¬ (¬ iand (w32 (lshr (w 92 7) (w32 (5 * (w32 (7 - x1)))))) 31 = 0) → Q (mI ((-1))) w)) : Wp (Cw (d + 1)) cd_Meeting_unitFor (1, 0, n1) Q 0 [mR 92, mI x1, none] [] w :=
  Wp.s (Wp.s (Wp.s (Wp.s (Meeting_digitOf_en (Wp.s (Wp.s (Wp.s (Wp.s (Wp.s (Wp.s (Wp.s ⟨fun q1 => Wp.s (Wp.s (Wp.s (Wp.s ((h.1 q1))))), fun q1 => Wp.s (Wp.s (Wp.s ((h.2 q1))))⟩)))))))))))
set_option maxRecDepth 4096 in
theorem Meeting_unitFor_92_en {d : Nat} {Q : MV → Wd → Prop} {x1 : Int} {w : Wd} (h : (¬ iand (w32 (lshr (w 92 7) (w32 (5 * (w32 (7 - x1)))))) 31 = 0 → Q (mI (w32 (16 - (iand (w32 (lshr (w 92 7) (w32 (5 * (w32 (7 - x1)))))) 31)))) w) ∧ (¬ (¬ iand (w32 (lshr (w 92 7) (w32 (5 * (w32 (7 - x1)))))) 31 = 0) → Q (mI ((-1))) w)) : Cw (d + 2) 95 [mR 92, mI x1] w Q :=
  Cw_in (by decide) (by decide) (Nat.le_of_ble_eq_true rfl) (fun n1 => Meeting_unitFor_92_c0 h)
set_option maxRecDepth 4096 in
theorem Plan_add_32_c0 {d : Nat} {n1 : Int} {Q : MV → Wd → Prop} {x1 x2 x3 : Int} {w : Wd} (h : (50 ≤ w 32 0 → Q none w) ∧ (¬ (50 ≤ w 32 0) → ((0 ≤ w 32 0 ∧ w 32 0 < 50) ∧ ((0 ≤ w 32 0 ∧ w 32 0 < 50) ∧ ((0 ≤ w 32 0 ∧ w 32 0 < 50) ∧ Q none (ub (ub (ub (ub w 33 (w 32 0).toNat x1) 34 (w 32 0).toNat x2) 35 (w 32 0).toNat x3) 32 0 (w32 ((w 32 0) + 1)))))))) : Wp (Cw (d + 0)) cd_Plan_add (0, 0, n1) Q 0 [mR 32, mI x1, mI x2, mI x3] [] w :=
  Wp.s (Wp.s (Wp.s (Wp.s ⟨fun q1 => Wp.s ((h.1 q1)), fun q1 => Wp.s (Wp.s (Wp.s (Wp.s (Wp.s (Wp.s ⟨(h.2 q1).1, Wp.s (Wp.s (Wp.s (Wp.s (Wp.s (Wp.s ⟨(h.2 q1).2.1, Wp.s (Wp.s (Wp.s (Wp.s (Wp.s (Wp.s ⟨(h.2 q1).2.2.1, Wp.s (Wp.s (Wp.s (Wp.s (Wp.s (Wp.s (Wp.s ((h.2 q1).2.2.2)))))))⟩)))))⟩)))))⟩)))))⟩)))
set_option maxRecDepth 4096 in
theorem Plan_add_32_en {d : Nat} {Q : MV → Wd → Prop} {x1 x2 x3 : Int} {w : Wd} (h : (50 ≤ w 32 0 → Q none w) ∧ (¬ (50 ≤ w 32 0) → ((0 ≤ w 32 0 ∧ w 32 0 < 50) ∧ ((0 ≤ w 32 0 ∧ w 32 0 < 50) ∧ ((0 ≤ w 32 0 ∧ w 32 0 < 50) ∧ Q none (ub (ub (ub (ub w 33 (w 32 0).toNat x1) 34 (w 32 0).toNat x2) 35 (w 32 0).toNat x3) 32 0 (w32 ((w 32 0) + 1)))))))) : Cw (d + 1) 100 [mR 32, mI x1, mI x2, mI x3] w Q :=
  Cw_in (by decide) (by decide) (Nat.le_of_ble_eq_true rfl) (fun n1 => Plan_add_32_c0 h)
set_option maxRecDepth 4096 in
theorem Plan_next_28_c0 {d : Nat} {n1 : Int} {Q : MV → Wd → Prop} {x1 : Int} {w : Wd} (h : (x1 ≤ 0 → Q (mI 0) (ub w 28 4 (w32 ((w32 ((w 28 4) * 1103515245)) + 12345)))) ∧ (¬ (x1 ≤ 0) → ((¬ x1 = 0) ∧ Q (mI (Int.tmod (iushr ((w32 ((w32 ((w 28 4) * 1103515245)) + 12345))) 8) x1)) (ub w 28 4 (w32 ((w32 ((w 28 4) * 1103515245)) + 12345)))))) : Wp (Cw (d + 0)) cd_Plan_next (1, 0, n1) Q 0 [mR 28, mI x1] [] w :=
  Wp.s (Wp.s (Wp.s (Wp.s (Wp.s (Wp.s (Wp.s (Wp.s (Wp.s (Wp.s ⟨fun q1 => Wp.s (Wp.s ((h.1 q1))), fun q1 => Wp.s (Wp.s (Wp.s (Wp.s (Wp.s (Wp.s ⟨(h.2 q1).1, Wp.s (Wp.s ((h.2 q1).2))⟩)))))⟩)))))))))
set_option maxRecDepth 4096 in
theorem Plan_next_28_en {d : Nat} {Q : MV → Wd → Prop} {x1 : Int} {w : Wd} (h : (x1 ≤ 0 → Q (mI 0) (ub w 28 4 (w32 ((w32 ((w 28 4) * 1103515245)) + 12345)))) ∧ (¬ (x1 ≤ 0) → ((¬ x1 = 0) ∧ Q (mI (Int.tmod (iushr ((w32 ((w32 ((w 28 4) * 1103515245)) + 12345))) 8) x1)) (ub w 28 4 (w32 ((w32 ((w 28 4) * 1103515245)) + 12345)))))) : Cw (d + 1) 104 [mR 28, mI x1] w Q :=
  Cw_in (by decide) (by decide) (Nat.le_of_ble_eq_true rfl) (fun n1 => Plan_next_28_c0 h)
set_option maxRecDepth 4096 in
theorem Plan_add_28_c0 {d : Nat} {n1 : Int} {Q : MV → Wd → Prop} {x1 x2 x3 : Int} {w : Wd} (h : (50 ≤ w 28 0 → Q none w) ∧ (¬ (50 ≤ w 28 0) → ((0 ≤ w 28 0 ∧ w 28 0 < 50) ∧ ((0 ≤ w 28 0 ∧ w 28 0 < 50) ∧ ((0 ≤ w 28 0 ∧ w 28 0 < 50) ∧ Q none (ub (ub (ub (ub w 29 (w 28 0).toNat x1) 30 (w 28 0).toNat x2) 31 (w 28 0).toNat x3) 28 0 (w32 ((w 28 0) + 1)))))))) : Wp (Cw (d + 0)) cd_Plan_add (0, 0, n1) Q 0 [mR 28, mI x1, mI x2, mI x3] [] w :=
  Wp.s (Wp.s (Wp.s (Wp.s ⟨fun q1 => Wp.s ((h.1 q1)), fun q1 => Wp.s (Wp.s (Wp.s (Wp.s (Wp.s (Wp.s ⟨(h.2 q1).1, Wp.s (Wp.s (Wp.s (Wp.s (Wp.s (Wp.s ⟨(h.2 q1).2.1, Wp.s (Wp.s (Wp.s (Wp.s (Wp.s (Wp.s ⟨(h.2 q1).2.2.1, Wp.s (Wp.s (Wp.s (Wp.s (Wp.s (Wp.s (Wp.s ((h.2 q1).2.2.2)))))))⟩)))))⟩)))))⟩)))))⟩)))
set_option maxRecDepth 4096 in
theorem Plan_add_28_en {d : Nat} {Q : MV → Wd → Prop} {x1 x2 x3 : Int} {w : Wd} (h : (50 ≤ w 28 0 → Q none w) ∧ (¬ (50 ≤ w 28 0) → ((0 ≤ w 28 0 ∧ w 28 0 < 50) ∧ ((0 ≤ w 28 0 ∧ w 28 0 < 50) ∧ ((0 ≤ w 28 0 ∧ w 28 0 < 50) ∧ Q none (ub (ub (ub (ub w 29 (w 28 0).toNat x1) 30 (w 28 0).toNat x2) 31 (w 28 0).toNat x3) 28 0 (w32 ((w 28 0) + 1)))))))) : Cw (d + 1) 100 [mR 28, mI x1, mI x2, mI x3] w Q :=
  Cw_in (by decide) (by decide) (Nat.le_of_ble_eq_true rfl) (fun n1 => Plan_add_28_c0 h)
set_option maxRecDepth 4096 in
theorem M_draw_144_c0 {d : Nat} {n1 : Int} {Q : MV → Wd → Prop} {x1 : Int} {w : Wd} (h : (¬ x1 = 0) ∧ Q (mI (Int.tmod (iushr ((w32 ((w32 ((w 144 51) * 1103515245)) + 12345))) 8) x1)) (ub w 144 51 (w32 ((w32 ((w 144 51) * 1103515245)) + 12345)))) : Wp (Cw (d + 0)) cd_M_draw (1, 0, n1) Q 0 [mR 144, mI x1] [] w :=
  Wp.s (Wp.s (Wp.s (Wp.s (Wp.s (Wp.s (Wp.s (Wp.s (Wp.s (Wp.s (Wp.s (Wp.s (Wp.s (Wp.s ⟨h.1, Wp.s (h.2)⟩)))))))))))))
set_option maxRecDepth 4096 in
theorem M_draw_144_en {d : Nat} {Q : MV → Wd → Prop} {x1 : Int} {w : Wd} (h : (¬ x1 = 0) ∧ Q (mI (Int.tmod (iushr ((w32 ((w32 ((w 144 51) * 1103515245)) + 12345))) 8) x1)) (ub w 144 51 (w32 ((w32 ((w 144 51) * 1103515245)) + 12345)))) : Cw (d + 1) 235 [mR 144, mI x1] w Q :=
  Cw_in (by decide) (by decide) (Nat.le_of_ble_eq_true rfl) (fun n1 => M_draw_144_c0 h)
set_option maxRecDepth 4096 in
theorem M_lesserFirst_144_c0 {d : Nat} {n1 : Int} {Q : MV → Wd → Prop} {x1 : Int} {w : Wd} (h : (0 ≤ w32 ((w32 (29 + (w32 (5 * x1)))) + 2) ∧ w32 ((w32 (29 + (w32 (5 * x1)))) + 2) < 645) ∧ ((0 ≤ w32 ((w32 (29 + (w32 (5 * x1)))) + 3) ∧ w32 ((w32 (29 + (w32 (5 * x1)))) + 3) < 645) ∧ ((w 146 (w32 ((w32 (29 + (w32 (5 * x1)))) + 3)).toNat < 0 → Q (mI (w 146 (w32 ((w32 (29 + (w32 (5 * x1)))) + 2)).toNat)) w) ∧ (¬ (w 146 (w32 ((w32 (29 + (w32 (5 * x1)))) + 3)).toNat < 0) → ((w 146 (w32 ((w32 (29 + (w32 (5 * x1)))) + 3)).toNat ≤ w 146 (w32 ((w32 (29 + (w32 (5 * x1)))) + 2)).toNat → Q (mI (w 146 (w32 ((w32 (29 + (w32 (5 * x1)))) + 3)).toNat)) w) ∧ (¬ (w 146 (w32 ((w32 (29 + (w32 (5 * x1)))) + 3)).toNat ≤ w 146 (w32 ((w32 (29 + (w32 (5 * x1)))) + 2)).toNat) → Q (mI (w 146 (w32 ((w32 (29 + (w32 (5 * x1)))) + 2)).toNat)) w)))))) : Wp (Cw (d + 0)) cd_M_lesserFirst (1, 0, n1) Q 0 [mR 144, mI x1, none, none] [] w :=
  Wp.s (Wp.s (Wp.s (Wp.s (Wp.s (Wp.s (Wp.s (Wp.s (Wp.s (Wp.s ⟨h.1, Wp.s (Wp.s (Wp.s (Wp.s (Wp.s (Wp.s (Wp.s (Wp.s (Wp.s (Wp.s (Wp.s ⟨h.2.1, Wp.s (Wp.s (Wp.s ⟨fun q1 => Wp.s (Wp.s (Wp.s ((h.2.2.1 q1)))), fun q1 => Wp.s (Wp.s (Wp.s ⟨fun q2 => Wp.s (Wp.s (((h.2.2.2 q1).1 q2))), fun q2 => Wp.s (Wp.s (Wp.s (((h.2.2.2 q1).2 q2))))⟩))⟩))⟩))))))))))⟩)))))))))
set_option maxRecDepth 4096 in
theorem M_lesserFirst_144_en {d : Nat} {Q : MV → Wd → Prop} {x1 : Int} {w : Wd} (h : (0 ≤ w32 ((w32 (29 + (w32 (5 * x1)))) + 2) ∧ w32 ((w32 (29 + (w32 (5 * x1)))) + 2) < 645) ∧ ((0 ≤ w32 ((w32 (29 + (w32 (5 * x1)))) + 3) ∧ w32 ((w32 (29 + (w32 (5 * x1)))) + 3) < 645) ∧ ((w 146 (w32 ((w32 (29 + (w32 (5 * x1)))) + 3)).toNat < 0 → Q (mI (w 146 (w32 ((w32 (29 + (w32 (5 * x1)))) + 2)).toNat)) w) ∧ (¬ (w 146 (w32 ((w32 (29 + (w32 (5 * x1)))) + 3)).toNat < 0) → ((w 146 (w32 ((w32 (29 + (w32 (5 * x1)))) + 3)).toNat ≤ w 146 (w32 ((w32 (29 + (w32 (5 * x1)))) + 2)).toNat → Q (mI (w 146 (w32 ((w32 (29 + (w32 (5 * x1)))) + 3)).toNat)) w) ∧ (¬ (w 146 (w32 ((w32 (29 + (w32 (5 * x1)))) + 3)).toNat ≤ w 146 (w32 ((w32 (29 + (w32 (5 * x1)))) + 2)).toNat) → Q (mI (w 146 (w32 ((w32 (29 + (w32 (5 * x1)))) + 2)).toNat)) w)))))) : Cw (d + 1) 243 [mR 144, mI x1] w Q :=
  Cw_in (by decide) (by decide) (Nat.le_of_ble_eq_true rfl) (fun n1 => M_lesserFirst_144_c0 h)
set_option maxRecDepth 4096 in
theorem Meeting_taken_112_c0 {d : Nat} {n1 : Int} {Q : MV → Wd → Prop} {x1 x2 : Int} {w : Wd} (h : (0 ≤ w32 ((w32 (x1 * 8)) + x2) ∧ w32 ((w32 (x1 * 8)) + x2) < 128) ∧ Q (mL (w 127 (w32 ((w32 (x1 * 8)) + x2)).toNat)) w) : Wp (Cw (d + 0)) cd_Meeting_taken (3, 0, n1) Q 0 [mR 112, mI x1, mI x2] [] w :=
  Wp.s (Wp.s (Wp.s (Wp.s (Wp.s (Wp.s (Wp.s (Wp.s ⟨h.1, Wp.s (h.2)⟩)))))))
set_option maxRecDepth 4096 in
theorem Meeting_taken_112_en {d : Nat} {Q : MV → Wd → Prop} {x1 x2 : Int} {w : Wd} (h : (0 ≤ w32 ((w32 (x1 * 8)) + x2) ∧ w32 ((w32 (x1 * 8)) + x2) < 128) ∧ Q (mL (w 127 (w32 ((w32 (x1 * 8)) + x2)).toNat)) w) : Cw (d + 1) 77 [mR 112, mI x1, mI x2] w Q :=
  Cw_in (by decide) (by decide) (Nat.le_of_ble_eq_true rfl) (fun n1 => Meeting_taken_112_c0 h)
set_option maxRecDepth 4096 in
theorem Meeting_unitFor_112_c0 {d : Nat} {n1 : Int} {Q : MV → Wd → Prop} {x1 : Int} {w : Wd} (h : (¬ iand (w32 (lshr (w 112 7) (w32 (5 * (w32 (7 - x1)))))) 31 = 0 → Q (mI (w32 (16 - (iand (w32 (lshr (w 112 7) (w32 (5 * (w32 (7 - x1)))))) 31)))) w) ∧ (¬ (¬ iand (w32 (lshr (w 112 7) (w32 (5 * (w32 (7 - x1)))))) 31 = 0) → Q (mI ((-1))) w)) : Wp (Cw (d + 1)) cd_Meeting_unitFor (1, 0, n1) Q 0 [mR 112, mI x1, none] [] w :=
  Wp.s (Wp.s (Wp.s (Wp.s (Meeting_digitOf_en (Wp.s (Wp.s (Wp.s (Wp.s (Wp.s (Wp.s (Wp.s ⟨fun q1 => Wp.s (Wp.s (Wp.s (Wp.s ((h.1 q1))))), fun q1 => Wp.s (Wp.s (Wp.s ((h.2 q1))))⟩)))))))))))
set_option maxRecDepth 4096 in
theorem Meeting_unitFor_112_en {d : Nat} {Q : MV → Wd → Prop} {x1 : Int} {w : Wd} (h : (¬ iand (w32 (lshr (w 112 7) (w32 (5 * (w32 (7 - x1)))))) 31 = 0 → Q (mI (w32 (16 - (iand (w32 (lshr (w 112 7) (w32 (5 * (w32 (7 - x1)))))) 31)))) w) ∧ (¬ (¬ iand (w32 (lshr (w 112 7) (w32 (5 * (w32 (7 - x1)))))) 31 = 0) → Q (mI ((-1))) w)) : Cw (d + 2) 95 [mR 112, mI x1] w Q :=
  Cw_in (by decide) (by decide) (Nat.le_of_ble_eq_true rfl) (fun n1 => Meeting_unitFor_112_c0 h)
set_option maxRecDepth 4096 in
theorem X_restOf_0_c0 {d : Nat} {n1 : Int} {Q : MV → Wd → Prop} {x1 : Int} {w : Wd} (h : (x1 < 0 → Q (mI ((-1))) w) ∧ (¬ (x1 < 0) → ((x1 < w 140 3 → ((0 ≤ x1 ∧ x1 < 8) ∧ Q (mI (w 142 x1.toNat)) w)) ∧ (¬ (x1 < w 140 3) → Q (mI ((-1))) w)))) : Wp (Cw (d + 0)) cd_X_restOf (1, 0, n1) Q 0 [mR 0, mI x1] [] w :=
  Wp.s (Wp.s ⟨fun q1 => Wp.s (Wp.s (Wp.s ((h.1 q1)))), fun q1 => Wp.s (Wp.s (Wp.s (Wp.s (Wp.s ⟨fun q2 => Wp.s (Wp.s (Wp.s (Wp.s (Wp.s ⟨((h.2 q1).1 q2).1, Wp.s (((h.2 q1).1 q2).2)⟩)))), fun q2 => Wp.s (Wp.s (Wp.s (((h.2 q1).2 q2))))⟩))))⟩)
set_option maxRecDepth 4096 in
theorem X_restOf_0_en {d : Nat} {Q : MV → Wd → Prop} {x1 : Int} {w : Wd} (h : (x1 < 0 → Q (mI ((-1))) w) ∧ (¬ (x1 < 0) → ((x1 < w 140 3 → ((0 ≤ x1 ∧ x1 < 8) ∧ Q (mI (w 142 x1.toNat)) w)) ∧ (¬ (x1 < w 140 3) → Q (mI ((-1))) w)))) : Cw (d + 1) 125 [mR 0, mI x1] w Q :=
  Cw_in (by decide) (by decide) (Nat.le_of_ble_eq_true rfl) (fun n1 => X_restOf_0_c0 h)
set_option maxRecDepth 4096 in
theorem M_restOf_144_c0 {d : Nat} {n1 : Int} {Q : MV → Wd → Prop} {x1 : Int} {w : Wd} (h : (x1 < 0 → Q (mI ((-1))) (ub w 144 0 0)) ∧ (¬ (x1 < 0) → ((w32 ((w 144 66) - 1) < x1 → Q (mI ((-1))) (ub w 144 0 0)) ∧ (¬ (w32 ((w 144 66) - 1) < x1) → ((0 ≤ x1 ∧ x1 < 8) ∧ Q (mI (w 176 x1.toNat)) (ub w 144 0 0)))))) : Wp (Cw (d + 1)) cd_M_restOf (1, 0, n1) Q 0 [mR 144, mI x1] [] w :=
  Wp.s (Wp.s (Wp.s (Wp.s (Wp.s (Wp.s (Wp.s (Wp.s (Wp.s (Wp.s (M_isIn_en ⟨fun q1 => Wp.s ⟨fun _ => Wp.s (Wp.s ((h.1 q1))), fun q => absurd (cn_yes rfl) q⟩, fun q1 => ⟨fun q2 => Wp.s ⟨fun _ => Wp.s (Wp.s (((h.2 q1).1 q2))), fun q => absurd (cn_yes rfl) q⟩, fun q2 => Wp.s ⟨fun q => absurd q (cn_no rfl), fun _ => Wp.s (Wp.s (Wp.s (Wp.s ⟨((h.2 q1).2 q2).1, Wp.s (Wp.s (((h.2 q1).2 q2).2))⟩)))⟩⟩⟩))))))))))
set_option maxRecDepth 4096 in
theorem M_restOf_144_en {d : Nat} {Q : MV → Wd → Prop} {x1 : Int} {w : Wd} (h : (x1 < 0 → Q (mI ((-1))) (ub w 144 0 0)) ∧ (¬ (x1 < 0) → ((w32 ((w 144 66) - 1) < x1 → Q (mI ((-1))) (ub w 144 0 0)) ∧ (¬ (w32 ((w 144 66) - 1) < x1) → ((0 ≤ x1 ∧ x1 < 8) ∧ Q (mI (w 176 x1.toNat)) (ub w 144 0 0)))))) : Cw (d + 2) 253 [mR 144, mI x1] w Q :=
  Cw_in (by decide) (by decide) (Nat.le_of_ble_eq_true rfl) (fun n1 => M_restOf_144_c0 h)
set_option maxRecDepth 4096 in
theorem X_middleBy_0_c0 {d : Nat} {n1 : Int} {Q : MV → Wd → Prop} {w : Wd} (h : Q (mI (w 140 6)) w) : Wp (Cw (d + 0)) cd_X_middleBy (1, 0, n1) Q 0 [mR 0] [] w :=
  Wp.s (Wp.s (Wp.s (Wp.s h)))
set_option maxRecDepth 4096 in
theorem X_middleBy_0_en {d : Nat} {Q : MV → Wd → Prop} {w : Wd} (h : Q (mI (w 140 6)) w) : Cw (d + 1) 127 [mR 0] w Q :=
  Cw_in (by decide) (by decide) (Nat.le_of_ble_eq_true rfl) (fun n1 => X_middleBy_0_c0 h)
set_option maxRecDepth 4096 in
theorem M_middleBy_144_c0 {d : Nat} {n1 : Int} {Q : MV → Wd → Prop} {w : Wd} (h : Q (mI (w 144 64)) (ub w 144 0 0)) : Wp (Cw (d + 0)) cd_M_middleBy (1, 0, n1) Q 0 [mR 144] [] w :=
  Wp.s (Wp.s (Wp.s (Wp.s (Wp.s (Wp.s h)))))
set_option maxRecDepth 4096 in
theorem M_middleBy_144_en {d : Nat} {Q : MV → Wd → Prop} {w : Wd} (h : Q (mI (w 144 64)) (ub w 144 0 0)) : Cw (d + 1) 251 [mR 144] w Q :=
  Cw_in (by decide) (by decide) (Nat.le_of_ble_eq_true rfl) (fun n1 => M_middleBy_144_c0 h)
set_option maxRecDepth 4096 in
theorem Ring_spot_137_c0 {d : Nat} {n1 : Int} {Q : MV → Wd → Prop} {x1 : Int} {w : Wd} (h : (w 137 2 ≤ 0 → Q (mI 0) w) ∧ (¬ (w 137 2 ≤ 0) → ((¬ w 137 2 = 0) ∧ Q (mI (Int.tmod x1 (w 137 2))) w))) : Wp (Cw (d + 0)) cd_Ring_spot (1, 0, n1) Q 0 [mR 137, mI x1] [] w :=
  Wp.s (Wp.s (Wp.s ⟨fun q1 => Wp.s (Wp.s ((h.1 q1))), fun q1 => Wp.s (Wp.s (Wp.s (Wp.s ⟨(h.2 q1).1, Wp.s (Wp.s ((h.2 q1).2))⟩)))⟩))
set_option maxRecDepth 4096 in
theorem Ring_spot_137_en {d : Nat} {Q : MV → Wd → Prop} {x1 : Int} {w : Wd} (h : (w 137 2 ≤ 0 → Q (mI 0) w) ∧ (¬ (w 137 2 ≤ 0) → ((¬ w 137 2 = 0) ∧ Q (mI (Int.tmod x1 (w 137 2))) w))) : Cw (d + 1) 133 [mR 137, mI x1] w Q :=
  Cw_in (by decide) (by decide) (Nat.le_of_ble_eq_true rfl) (fun n1 => Ring_spot_137_c0 h)
set_option maxRecDepth 4096 in
theorem Ring_at_137_c0 {d : Nat} {n1 : Int} {Q : MV → Wd → Prop} {x1 : Int} {w : Wd} (h : (w 137 2 ≤ 0 → Q (mI (w 138 0)) w) ∧ (¬ (w 137 2 ≤ 0) → ((¬ w 137 2 = 0) ∧ ((0 ≤ Int.tmod x1 (w 137 2) ∧ Int.tmod x1 (w 137 2) < 8) ∧ Q (mI (w 138 (Int.tmod x1 (w 137 2)).toNat)) w)))) : Wp (Cw (d + 1)) cd_Ring_at (1, 0, n1) Q 0 [mR 137, mI x1] [] w :=
  Wp.s (Wp.s (Wp.s (Wp.s (Wp.s (Ring_spot_137_en ⟨fun q1 => Wp.s ⟨(⟨by decide, (by decide : (0 : Int) < 8)⟩), Wp.s ((h.1 q1))⟩, fun q1 => ⟨(h.2 q1).1, Wp.s ⟨(h.2 q1).2.1, Wp.s ((h.2 q1).2.2)⟩⟩⟩)))))
set_option maxRecDepth 4096 in
theorem Ring_at_137_en {d : Nat} {Q : MV → Wd → Prop} {x1 : Int} {w : Wd} (h : (w 137 2 ≤ 0 → Q (mI (w 138 0)) w) ∧ (¬ (w 137 2 ≤ 0) → ((¬ w 137 2 = 0) ∧ ((0 ≤ Int.tmod x1 (w 137 2) ∧ Int.tmod x1 (w 137 2) < 8) ∧ Q (mI (w 138 (Int.tmod x1 (w 137 2)).toNat)) w)))) : Cw (d + 2) 132 [mR 137, mI x1] w Q :=
  Cw_in (by decide) (by decide) (Nat.le_of_ble_eq_true rfl) (fun n1 => Ring_at_137_c0 h)
set_option maxRecDepth 4096 in
theorem M_octet_144_c0 {d : Nat} {n1 : Int} {Q : MV → Wd → Prop} {x1 : Int} {w : Wd} (h : (0 ≤ x1 ∧ x1 < 1040) ∧ Q (mI (iand (w 145 x1.toNat) 255)) w) : Wp (Cw (d + 0)) cd_M_octet (1, 0, n1) Q 0 [mR 144, mI x1] [] w :=
  Wp.s (Wp.s (Wp.s (Wp.s ⟨h.1, Wp.s (Wp.s (Wp.s (h.2)))⟩)))
set_option maxRecDepth 4096 in
theorem M_octet_144_en {d : Nat} {Q : MV → Wd → Prop} {x1 : Int} {w : Wd} (h : (0 ≤ x1 ∧ x1 < 1040) ∧ Q (mI (iand (w 145 x1.toNat) 255)) w) : Cw (d + 1) 256 [mR 144, mI x1] w Q :=
  Cw_in (by decide) (by decide) (Nat.le_of_ble_eq_true rfl) (fun n1 => M_octet_144_c0 h)
set_option maxRecDepth 4096 in
theorem M_gain1_144_c0 {d : Nat} {n1 : Int} {Q : MV → Wd → Prop} {x1 : Int} {w : Wd} (h : (x1 < 0 → Q (mI 0) (ub w 144 0 1)) ∧ (¬ (x1 < 0) → ((w32 ((w 144 71) - 1) < x1 → Q (mI 0) (ub w 144 0 1)) ∧ (¬ (w32 ((w 144 71) - 1) < x1) → ((0 ≤ x1 ∧ x1 < 8) ∧ Q (mI (w 179 x1.toNat)) (ub w 144 0 0)))))) : Wp (Cw (d + 1)) cd_M_gain1 (1, 0, n1) Q 0 [mR 144, mI x1] [] w :=
  Wp.s (Wp.s (Wp.s (Wp.s (Wp.s (Wp.s (Wp.s (Wp.s (M_isIn_en ⟨fun q1 => Wp.s ⟨fun q => absurd q (cn_no rfl), fun _ => Wp.s (Wp.s (Wp.s (M_throwsIf_144_en ⟨fun q => absurd q (by decide), fun _ => ⟨Or.inr rfl, Wp.s ⟨fun q => absurd q (cn_no rfl), fun _ => Wp.s (Wp.s (Wp.s ((h.1 q1))))⟩⟩⟩)))⟩, fun q1 => ⟨fun q2 => Wp.s ⟨fun q => absurd q (cn_no rfl), fun _ => Wp.s (Wp.s (Wp.s (M_throwsIf_144_en ⟨fun q => absurd q (by decide), fun _ => ⟨Or.inr rfl, Wp.s ⟨fun q => absurd q (cn_no rfl), fun _ => Wp.s (Wp.s (Wp.s (((h.2 q1).1 q2))))⟩⟩⟩)))⟩, fun q2 => Wp.s ⟨fun _ => Wp.s (Wp.s (M_throwsIf_144_en ⟨fun _ => ⟨Or.inl rfl, Wp.s ⟨fun _ => Wp.s (Wp.s (Wp.s (Wp.s ⟨((h.2 q1).2 q2).1, Wp.s (((h.2 q1).2 q2).2)⟩))), fun q => absurd (cn_yes rfl) q⟩⟩, fun q => absurd (by decide) q⟩)), fun q => absurd (cn_yes rfl) q⟩⟩⟩))))))))
set_option maxRecDepth 4096 in
theorem M_gain1_144_en {d : Nat} {Q : MV → Wd → Prop} {x1 : Int} {w : Wd} (h : (x1 < 0 → Q (mI 0) (ub w 144 0 1)) ∧ (¬ (x1 < 0) → ((w32 ((w 144 71) - 1) < x1 → Q (mI 0) (ub w 144 0 1)) ∧ (¬ (w32 ((w 144 71) - 1) < x1) → ((0 ≤ x1 ∧ x1 < 8) ∧ Q (mI (w 179 x1.toNat)) (ub w 144 0 0)))))) : Cw (d + 2) 261 [mR 144, mI x1] w Q :=
  Cw_in (by decide) (by decide) (Nat.le_of_ble_eq_true rfl) (fun n1 => M_gain1_144_c0 h)
set_option maxRecDepth 4096 in
theorem Village_allWants_4_c0 {d : Nat} {n1 : Int} {Q : MV → Wd → Prop} {w : Wd} (h : Q (mI (w32 ((ishl 1 (w 4 11)) - 1))) w) : Wp (Cw (d + 0)) cd_Village_allWants (1, 0, n1) Q 0 [mR 4] [] w :=
  Wp.s (Wp.s (Wp.s (Wp.s (Wp.s (Wp.s (Wp.s h))))))
set_option maxRecDepth 4096 in
theorem Village_allWants_4_en {d : Nat} {Q : MV → Wd → Prop} {w : Wd} (h : Q (mI (w32 ((ishl 1 (w 4 11)) - 1))) w) : Cw (d + 1) 145 [mR 4] w Q :=
  Cw_in (by decide) (by decide) (Nat.le_of_ble_eq_true rfl) (fun n1 => Village_allWants_4_c0 h)
set_option maxRecDepth 4096 in
theorem X_starves_0_c0 {d : Nat} {n1 : Int} {Q : MV → Wd → Prop} {w : Wd} (h : Q (mI (w 140 7)) w) : Wp (Cw (d + 0)) cd_X_starves (1, 0, n1) Q 0 [mR 0] [] w :=
  Wp.s (Wp.s (Wp.s (Wp.s h)))
set_option maxRecDepth 4096 in
theorem X_starves_0_en {d : Nat} {Q : MV → Wd → Prop} {w : Wd} (h : Q (mI (w 140 7)) w) : Cw (d + 1) 147 [mR 0] w Q :=
  Cw_in (by decide) (by decide) (Nat.le_of_ble_eq_true rfl) (fun n1 => X_starves_0_c0 h)
set_option maxRecDepth 4096 in
theorem M_starves_144_c0 {d : Nat} {n1 : Int} {Q : MV → Wd → Prop} {w : Wd} (h : Q (mI (w 144 72)) (ub w 144 0 0)) : Wp (Cw (d + 0)) cd_M_starves (1, 0, n1) Q 0 [mR 144] [] w :=
  Wp.s (Wp.s (Wp.s (Wp.s (Wp.s (Wp.s h)))))
set_option maxRecDepth 4096 in
theorem M_starves_144_en {d : Nat} {Q : MV → Wd → Prop} {w : Wd} (h : Q (mI (w 144 72)) (ub w 144 0 0)) : Cw (d + 1) 264 [mR 144] w Q :=
  Cw_in (by decide) (by decide) (Nat.le_of_ble_eq_true rfl) (fun n1 => M_starves_144_c0 h)
set_option maxRecDepth 4096 in
theorem Meeting_sum_112_c0 {d : Nat} {n1 : Int} {Q : MV → Wd → Prop} {w : Wd} (h : Q (mI (w32 (lshr (w 112 7) 44))) w) : Wp (Cw (d + 0)) cd_Meeting_sum (1, 0, n1) Q 0 [mR 112] [] w :=
  Wp.s (Wp.s (Wp.s (Wp.s (Wp.s (Wp.s h)))))
set_option maxRecDepth 4096 in
theorem Meeting_sum_112_en {d : Nat} {Q : MV → Wd → Prop} {w : Wd} (h : Q (mI (w32 (lshr (w 112 7) 44))) w) : Cw (d + 1) 92 [mR 112] w Q :=
  Cw_in (by decide) (by decide) (Nat.le_of_ble_eq_true rfl) (fun n1 => Meeting_sum_112_c0 h)
