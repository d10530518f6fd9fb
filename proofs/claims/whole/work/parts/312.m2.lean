theorem way_le {T : Tm} (hb : TmB T) {a x y : Nat} (hx : x ≤ 99) (hy : y ≤ 99) {s : Nat → Int} {u v : Nat} {b' : List Nat} (h : wayO (TmK T a y) s u v = some b') : ∃ b, wayO (TmK T a x) s u v = some b ∧ coL (TmK T a x) b ≤ coL (TmK T a x) b' := by
  have hbx := TmB_K hb a hx
  have hby := TmB_K hb a hy
  have e1 := way_E (TmE_K T a x) s u v
  have e2 := way_E (TmE_K T a y) s u v
  rw [h] at e2
  rw [← e2] at e1
  obtain ⟨b, hb'⟩ := Option.isSome_iff_exists.mp e1
  refine ⟨b, hb', ?_⟩
  obtain ⟨r1, r2, r3⟩ := wayO_row hbx.P8 hbx.n6 hbx.hr9 hbx.pn9 hbx.ak9 hb'
  obtain ⟨q1, q2, _⟩ := wayO_row hby.P8 hby.n6 hby.hr9 hby.pn9 hby.ak9 h
  have q1' : b' ∈ rowsO (TmK T a x) s u := by
    rw [rowsO_E (TmE_K T a x)]
    rw [rowsO_E (TmE_K T a y)] at q1
    exact q1
  have q2' : hitS (TmK T a x) s u v b' = true := by
    rw [hitS_K] at q2 ⊢
    exact q2
  have k := r3 b' q1' q2'
  obtain ⟨m1, m2, _⟩ := rowsO_mem q1'
  obtain ⟨_, c2, c3⟩ := row_bd hbx.hr9 hbx.pn9 hbx.ak9 hbx.P8 hbx.n6 m1 m2
  unfold keyL at k
  omega
theorem co_cmp {T : Tm} (hb : TmB T) {a x y : Nat} (hx : x ≤ 99) (hy : y ≤ 99) {s : Nat → Int} {u v : Nat} (h : adjS (TmK T a y) s u v = true) : (coS (TmK T a x) s u v : Int) ≤ (coS (TmK T a y) s u v : Int) + (tmS (TmK T a y) s a u v : Int) * ((x : Int) - y) := by
  obtain ⟨_, _, h⟩ := adjS_in h
  obtain ⟨b', hb'⟩ := Option.isSome_iff_exists.mp h
  obtain ⟨b, e, le⟩ := way_le hb (a := a) (x := x) hx hy hb'
  have e1 : coS (TmK T a x) s u v = coL (TmK T a x) b := by unfold coS; rw [e]; rfl
  have e2 : coS (TmK T a y) s u v = coL (TmK T a y) b' := by unfold coS; rw [hb']; rfl
  have e3 : tmS (TmK T a y) s a u v = tmW T.n a b' := by unfold tmS; rw [hb']; rfl
  rw [e1, e2, e3]
  have k1 := coL_K T a x b'
  have k2 := coL_K T a y b'
  rw [k1] at le
  rw [k2]
  generalize tmW T.n (a : Int) b' = t at *
  generalize coL (TmK T a 0) b' = c at *
  rw [Int.mul_sub, Int.natCast_add, Int.natCast_mul, Int.mul_comm (t : Int) (x : Int), Int.mul_comm (t : Int) (y : Int)]
  have le : ((coL (TmK T a x) b : Nat) : Int) ≤ ((c + x * t : Nat) : Int) := Int.ofNat_le.mpr le
  rw [Int.natCast_add, Int.natCast_mul] at le
  omega
theorem net_cmp {T : Tm} (hb : TmB T) {a x y : Nat} (hx : x ≤ 99) (hy : y ≤ 99) {s : Nat → Int} {f : Nat → Nat} (hf : ∀ v, f v ≠ 0 → adjS (TmK T a y) s (16 - f v) v = true) : netS (netD (woS s) (coS (TmK T a y) s)) f + sumZ 8 (painS (tmS (TmK T a y) s a) f) * ((y : Int) - x) ≤ netS (netD (woS s) (coS (TmK T a x) s)) f := by
  unfold netS val
  have key : ∀ n, sumZ n (fun w => if f w = 0 then (0 : Int) else netD (woS s) (coS (TmK T a y) s) (16 - f w) w) + sumZ n (painS (tmS (TmK T a y) s a) f) * ((y : Int) - x) ≤ sumZ n (fun w => if f w = 0 then (0 : Int) else netD (woS s) (coS (TmK T a x) s) (16 - f w) w) := by
    intro n
    induction n with
    | zero => show (0 : Int) + 0 * _ ≤ 0; rw [Int.zero_mul]; omega
    | succ n ih =>
      show sumZ n _ + (if f n = 0 then (0 : Int) else netD (woS s) (coS (TmK T a y) s) (16 - f n) n) + (sumZ n (painS (tmS (TmK T a y) s a) f) + painS (tmS (TmK T a y) s a) f n) * ((y : Int) - x) ≤ sumZ n _ + (if f n = 0 then (0 : Int) else netD (woS s) (coS (TmK T a x) s) (16 - f n) n)
      rw [Int.add_mul]
      have one : (if f n = 0 then (0 : Int) else netD (woS s) (coS (TmK T a y) s) (16 - f n) n) + painS (tmS (TmK T a y) s a) f n * ((y : Int) - x) ≤ (if f n = 0 then (0 : Int) else netD (woS s) (coS (TmK T a x) s) (16 - f n) n) := by
        unfold painS
        by_cases z : f n = 0
        · rw [if_pos z, if_pos z, if_pos z, Int.zero_mul]; omega
        · rw [if_neg z, if_neg z, if_neg z]
          have c := co_cmp hb (a := a) (x := x) hx hy (hf n z)
          unfold netD
          rw [Int.mul_sub] at c ⊢
          omega
      generalize sumZ n (fun w => if f w = 0 then (0 : Int) else netD (woS s) (coS (TmK T a y) s) (16 - f w) w) = A at *
      generalize sumZ n (fun w => if f w = 0 then (0 : Int) else netD (woS s) (coS (TmK T a x) s) (16 - f w) w) = B at *
      generalize sumZ n (painS (tmS (TmK T a y) s a) f) * ((y : Int) - x) = C at *
      omega
  exact key 8
theorem TmsR.day {s : Nat → Int} (ws : WS s) {T : Tm} {a n : Nat} (h : TmsR s T a n) : ∃ (top : Int) (f : Nat → Nat), IsMax (s 3).toNat (adjP (woS s) (adjS T s) (coS T s)) (cL (netD (woS s) (coS T s))) (s 2).toNat top ∧ valid (s 3).toNat (adjS T s) (s 2).toNat f ∧ top / 17592186044416 = netS (netD (woS s) (coS T s)) f ∧ (n : Int) = sumZ 8 (painS (tmS T s a) f) := by
  obtain ⟨top, f, h1, h2, h3⟩ := h
  obtain ⟨g, v1, v2, v3, v4, v5, v6, v7, v8⟩ := top_day ws h1
  refine ⟨top, g, h1, valid_adjS v1, v6, ?_⟩
  rw [h3]
  exact sumZ_ext (fun i hi => by
    have x := h2 i hi
    have y := v8 i hi
    unfold painS
    rw [show f i = g i by omega])
/-- who asks more comes never more often -/
theorem tms_mono {s : Nat → Int} (ws : WS s) {T : Tm} (hb : TmB T) {a x y n m : Nat} (hx : x ≤ 99) (hy : y ≤ 99) (hxy : x < y) (hn : TmsR s (TmK T a x) a n) (hm : TmsR s (TmK T a y) a m) : m ≤ n := by
  obtain ⟨tx, f, a1, a2, a3, a4⟩ := TmsR.day ws hn
  obtain ⟨ty, g, b1, b2, b3, b4⟩ := TmsR.day ws hm
  have ea : adjS (TmK T a x) s = adjS (TmK T a y) s := by rw [adjS_E (TmE_K T a x), adjS_E (TmE_K T a y)]
  have g1 : valid (s 3).toNat (adjS (TmK T a x) s) (s 2).toNat g := by rw [ea]; exact b2
  have f1 : valid (s 3).toNat (adjS (TmK T a y) s) (s 2).toNat f := by rw [← ea]; exact a2
  have p1 := max_net ws a1 g1
  have p2 := max_net ws b1 f1
  rw [a3] at p1
  rw [b3] at p2
  have q1 := net_cmp hb (a := a) (x := x) (y := y) hx hy (s := s) (f := g) (fun v hv => (b2.1 v hv).2.2.2)
  have q2 := net_cmp hb (a := a) (x := y) (y := x) hy hx (s := s) (f := f) (fun v hv => (a2.1 v hv).2.2.2)
  rw [← b4] at q1
  rw [← a4] at q2
  have d : (m : Int) * ((y : Int) - x) ≤ (n : Int) * ((y : Int) - x) := by
    have e : (n : Int) * ((x : Int) - y) = -((n : Int) * ((y : Int) - x)) := by
      rw [← Int.mul_neg]; congr 1; omega
    rw [e] at q2
    generalize (m : Int) * ((y : Int) - x) = A at *
    generalize (n : Int) * ((y : Int) - x) = B at *
    omega
  have := Int.le_of_mul_le_mul_right d (by omega)
  omega
def midG (n : Nat → Nat) : Nat → Nat
  | 0 => 0
  | m + 1 => if midG n m < (m + 1) * n (m + 1) then (m + 1) * n (m + 1) else midG n m
def midB (n : Nat → Nat) : Nat → Nat
  | 0 => 0
  | m + 1 => if midG n m < (m + 1) * n (m + 1) then m + 1 else midB n m
theorem mid_stop {n : Nat → Nat} (hm : ∀ x y, x < y → y ≤ 20 → n y ≤ n x) {m : Nat} (hs : n m * 20 ≤ midG n m) : ∀ j, m + j ≤ 20 → midG n (m + j) = midG n m ∧ midB n (m + j) = midB n m
  | 0, _ => ⟨rfl, rfl⟩
  | j + 1, h => by
    obtain ⟨a, b⟩ := mid_stop hm hs j (by omega)
    have c := hm m (m + j + 1) (by omega) (by omega)
    have e : (m + j + 1) * n (m + j + 1) ≤ n m * 20 := by
      rw [Nat.mul_comm (n m)]
      exact Nat.mul_le_mul (by omega) c
    have n1 : ¬ midG n (m + j) < (m + j + 1) * n (m + j + 1) := by omega
    refine ⟨?_, ?_⟩
    · show (if midG n (m + j) < (m + j + 1) * n (m + j + 1) then (m + j + 1) * n (m + j + 1) else midG n (m + j)) = _
      rw [if_neg n1, a]
    · show (if midG n (m + j) < (m + j + 1) * n (m + j + 1) then m + j + 1 else midB n (m + j)) = _
      rw [if_neg n1, b]
theorem midG_bd {n : Nat → Nat} {b : Nat} (h : ∀ x, n x ≤ b) : ∀ m, midG n m ≤ m * b
  | 0 => Nat.zero_le _
  | m + 1 => by
    have h1 := midG_bd h m
    have h2 := Nat.mul_le_mul (Nat.le_refl (m + 1)) (h (m + 1))
    show (if midG n m < (m + 1) * n (m + 1) then (m + 1) * n (m + 1) else midG n m) ≤ (m + 1) * b
    have h3 : m * b ≤ (m + 1) * b := Nat.mul_le_mul_right _ (by omega)
    split <;> omega
theorem midB_bd (n : Nat → Nat) : ∀ m, midB n m ≤ m
  | 0 => Nat.le_refl _
  | m + 1 => by
    have h1 := midB_bd n m
    show (if midG n m < (m + 1) * n (m + 1) then m + 1 else midB n m) ≤ m + 1
    split <;> omega
theorem TmsR.bd {s : Nat → Int} (ws : WS s) {T : Tm} (hb : TmB T) {a n : Nat} (h : TmsR s T a n) : n ≤ 48 := by
  obtain ⟨top, f, _, _, _, h4⟩ := TmsR.day ws h
  have b := sumZ_le (g := painS (tmS T s a) f) 6 (n := 8) (fun i _ => by
    unfold painS
    by_cases z : f i = 0
    · rw [if_pos z]; omega
    · rw [if_neg z]
      unfold tmS
      cases q : wayO T s (16 - f i) i with
      | none => show ((0 : Nat) : Int) ≤ 6; omega
      | some r =>
        obtain ⟨_, _, _, rl, _⟩ := wayO_bd hb q
        have := tmW_len T.n (a : Int) r
        have := hb.n6
        show ((tmW T.n (a : Int) r : Nat) : Int) ≤ 6
        omega)
  omega
/-- how often one comes when he asks x -/
noncomputable def nA (s : Nat → Int) (T : Tm) (a x : Nat) : Nat := tmsV s (TmK T a x) a
theorem nA_mono {s : Nat → Int} (ws : WS s) {T : Tm} (hb : TmB T) (a : Nat) {x y : Nat} (hxy : x < y) (hy : y ≤ 20) : nA s T a y ≤ nA s T a x := tms_mono ws hb (by omega) (by omega) hxy (tmsV_spec ws _ a) (tmsV_spec ws _ a)
theorem nA_bd {s : Nat → Int} (ws : WS s) {T : Tm} (hb : TmB T) (a : Nat) {x : Nat} (hx : x ≤ 20) : nA s T a x ≤ 48 := TmsR.bd ws (TmB_K hb a (by omega)) (tmsV_spec ws _ a)
