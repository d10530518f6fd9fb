theorem allF_in {T : Tm} {s : Nat → Int} (ws : WS s) (hT : ∀ q, q < 8 → T.ha q = true) {u : Nat} (hu : (u : Int) < s 2) : allF T s u = true := by
  have mk := ws.mak u hu
  have pr := ws.par u hu
  have pe := ws.pe
  unfold allF
  rw [hT _ (by omega), Bool.true_and]
  rcases pr with z | z
  · rw [decide_eq_true (by omega), Bool.true_or]
  · rw [hT _ (by omega), Bool.or_true]
theorem TmO_ha {s : Nat → Int} {n b q : Nat} (hq : q < 8) : (TmO s n b).ha q = true := decide_eq_true hq
theorem TmS_ha {s : Nat → Int} {q : Nat} (hq : q < 8) : (TmS s).ha q = true := decide_eq_true hq
theorem RfT_O {o v gv pn hr ak s : Nat → Int} {n : Nat} (h : RfT o v gv pn hr ak (TmS s)) (n2 : 2 ≤ n) (n6 : n ≤ 6) : RfT o v gv pn hr ak (TmO s n (TmS s).back) := by
  refine (RfT.mk (h.P) (h.P8) (n2) (n6) (h.back) (h.back3) (h.hands) (h.gv) (h.pn) (h.hr) (h.ak) (h.tw) (h.pn9) (h.hr9) (h.ak9) (h.tw9))
theorem RfT_fr {w w' : Wd} {s : Nat → Int} {T : Tm} (hF : ∀ c, c ∈ [151, 152, 153, 154] → w' c = w c) (e26 : w' 144 26 = w 144 26) (e27 : w' 144 27 = w 144 27) (g : RfT (w 144) s (w 151) (w 152) (w 153) (w 154) T) : RfT (w' 144) s (w' 151) (w' 152) (w' 153) (w' 154) T := by
  rw [hF 151 (by decide), hF 152 (by decide), hF 153 (by decide), hF 154 (by decide)]
  refine (RfT.mk (g.P) (g.P8) (g.n2) (g.n6) ?_ (g.back3) ?_ (g.gv) (g.pn) (g.hr) (g.ak) (g.tw) (g.pn9) (g.hr9) (g.ak9) (g.tw9))
  · rw [e26]; exact g.back
  · rw [e27]; exact g.hands
theorem hitS_head {T : Tm} {s : Nat → Int} {u v q : Nat} {t : List Nat} (hs : s (110 + 4 * v) = s (30 + 5 * u)) (hr : s (33 + 5 * u) + (hoL T (q :: t) : Int) ≤ lastH s u v) : hitS T s u v (q :: t) = decide (s (109 + 4 * v) = (q : Int)) := by
  unfold hitS
  rw [decide_eq_true hs, decide_eq_true hr]
  simp
theorem hitS_late {T : Tm} {s : Nat → Int} {u v : Nat} {r : List Nat} (hr : lastH s u v < s (33 + 5 * u) + (hoL T r : Int)) : hitS T s u v r = false := by
  unfold hitS
  rw [decide_eq_false (p := s (33 + 5 * u) + (hoL T r : Int) ≤ lastH s u v) (by omega)]
  simp
theorem hitS_sort {T : Tm} {s : Nat → Int} {u v : Nat} {r : List Nat} (hs : ¬ s (110 + 4 * v) = s (30 + 5 * u)) : hitS T s u v r = false := by
  unfold hitS
  rw [decide_eq_false hs]
  simp
/-- the reference's counting -/
theorem L_w61 {d : Nat} {n1 : Int} {Q : MV → Wd → Prop} {w : Wd} {T : Tm} (g : RfT (w 144) (w 146) (w 151) (w 152) (w 153) (w 154) T) (hn : w 144 35 = T.n) (u v : Nat) (hu : u < 16) (hv : v < 8) (most : Int) (hm : most = lastH (w 146) u v - w 146 (33 + 5 * u)) (hs : w 146 (110 + 4 * v) = w 146 (30 + 5 * u)) (LL : List (List Nat)) (hLL : LL.length ≤ 300000)
    (k : ∀ w', AtS w w' → Q (mI (accC (hitS T (w 146) u v) LL : Nat)) w') :
    ∀ (N : Nat) (L L0 : List (List Nat)) (w1 : Wd), L.length ≤ N → AtS w w1 → SrS T (fiR (w 146) u) w1 L → LL = L0 ++ L → Wp (Cw (d + 3)) cd_M_ways (1, 0, n1) Q 61 [mR 144, mI u, mI v, mI T.n, mI (accC (hitS T (w 146) u v) L0 : Nat), mI most] [] w1 := by
  intro N
  induction N with
  | zero =>
    intro L L0 w1 hN hA hS hL
    have : L = [] := List.eq_nil_of_length_eq_zero (by omega)
    subst this
    have g1 := hA.rft g
    have e146 : w1 146 = w 146 := hA.1 146 (by decide)
    have h35 : w1 144 35 = T.n := by rw [hA.2 35 (by decide) (by decide)]; exact hn
    apply M_ways_144_c61
    refine S_nextRow g1 h35 u hu most [] (by rw [e146]; exact hS) ?_ ?_
    · intro w2 hA2 _
      refine ⟨_, rfl, fun _ => ?_, fun z => absurd rfl z⟩
      rw [List.append_nil] at hL
      rw [← hL]
      exact k w2 (hA.tr hA2)
    · intro w2 L1 r L2 _ hE
      exfalso
      simp at hE
  | succ N ih =>
    intro L L0 w1 hN hA hS hL
    have g1 := hA.rft g
    have e146 : w1 146 = w 146 := hA.1 146 (by decide)
    have h35 : w1 144 35 = T.n := by rw [hA.2 35 (by decide) (by decide)]; exact hn
    have off : ∀ x : List Nat, most < hoL T x → hitS T (w 146) u v x = false := fun x hx => hitS_late (by omega)
    apply M_ways_144_c61
    refine S_nextRow g1 h35 u hu most L (by rw [e146]; exact hS) ?_ ?_
    · intro w2 hA2 hno
      refine ⟨_, rfl, fun _ => ?_, fun z => absurd rfl z⟩
      have e : accC (hitS T (w 146) u v) L0 = accC (hitS T (w 146) u v) LL := by
        rw [hL, accC_app, accC_no (A := L) (fun x hx => off x (hno x hx)), Nat.add_zero]
      rw [e]
      exact k w2 (hA.tr hA2)
    · intro w2 L1 r L2 hA2 hE hL1 hr hst hok hlen hS2
      have n2 := g.n2
      have n6 := g.n6
      have hA3 := hA.tr hA2
      have e2 : w2 146 = w 146 := hA3.1 146 (by decide)
      cases r with
      | nil => simp at hlen; omega
      | cons q t =>
        have lt : t.length + 1 = T.n := by simpa using hlen
        have r1 : w2 155 t.length = q := hst.1.1.1
        have et : (T.n : Int) - 1 = (t.length : Int) := by omega
        have hh : hitS T (w 146) u v (q :: t) = decide (w 146 (109 + 4 * v) = (q : Int)) := hitS_head hs (by omega)
        have hL3 : LL = (L0 ++ L1 ++ [q :: t]) ++ L2 := by rw [hL, hE]; simp
        have hN2 : L2.length ≤ N := by rw [hE] at hN; simp at hN; omega
        have ea : accC (hitS T (w 146) u v) (L0 ++ L1 ++ [q :: t]) = accC (hitS T (w 146) u v) L0 + (if decide (w 146 (109 + 4 * v) = (q : Int)) = true then 1 else 0) := by
          rw [accC_app, accC_app, accC_no (A := L1) (fun x hx => off x (hL1 x hx)), Nat.add_zero]
          show _ + ((if hitS T (w 146) u v (q :: t) = true then 1 else 0) + 0) = _
          rw [hh]; omega
        have hle := accC_le (hitS T (w 146) u v) L0
        have hl0 : L0.length ≤ 300000 := by
          have e := hLL
          rw [hL, List.length_append] at e
          omega
        rw [e146] at hS2
        have i1 := ih L2 (L0 ++ L1 ++ [q :: t]) w2 hN2 hA3 hS2 hL3
        refine ⟨_, rfl, fun z => absurd z (by decide), fun _ => ?_⟩
        rw [et, w32n (n := t.length) (by omega), Int.toNat_natCast, ixw (by omega), Int.toNat_natCast, r1, e2]
        refine ⟨by omega, by omega, fun z => ?_, fun z => ?_⟩
        · rw [ea, if_neg (by rw [decide_eq_true_eq]; exact fun y => z y.symm), Nat.add_zero] at i1
          rw [w32_id (x := ((accC (hitS T (w 146) u v) L0 : Nat) : Int) + 0) (by unfold in32; omega), Int.add_zero]
          exact i1
        · rw [ea, if_pos (by rw [decide_eq_true_eq]; exact (Classical.not_not.mp z).symm)] at i1
          rw [ixs (by omega)]
          exact i1
theorem rows_len {T : Tm} (hP : T.P ≤ 8) (hn : T.n ≤ 6) (fi : Nat → Bool) : (rowsL T fi).length ≤ 300000 := by
  have h := ext_len T hP fi T.n []
  have p := Nat.pow_le_pow_right (n := 8) (by omega) hn
  rw [show (8 : Nat) ^ 6 = 262144 from rfl] at p
  show (ext T fi T.n []).length ≤ 300000
  omega
/-- how late, as the reference has it at hand -/
theorem lastH_ref {s : Nat → Int} (ws : WS s) {u v : Nat} (hu : (u : Int) < s 2) (hv : (v : Int) < s 3) : ∃ ks lf md by' : Nat, s (30 + 5 * u) = ks ∧ s (23 + ks) = lf ∧ s (33 + 5 * u) = md ∧ s (112 + 4 * v) = by' ∧ ks < 6 ∧ 1 ≤ lf ∧ lf ≤ 48 ∧ md ≤ 47 ∧ by' ≤ 47 ∧ lastH s u v = min (by' : Int) ((md : Int) + lf - 1) := by
  have us := ws.usort u hu
  have uh := ws.uhour u hu
  have so := ws.so
  have wb := ws.wby v hv
  obtain ⟨ks, hks⟩ := Int.eq_ofNat_of_zero_le us.1
  have li := ws.life ks (by omega)
  obtain ⟨lf, hlf⟩ := Int.eq_ofNat_of_zero_le (show 0 ≤ s (23 + ks) by omega)
  obtain ⟨md, hmd⟩ := Int.eq_ofNat_of_zero_le uh.1
  obtain ⟨b, hb⟩ := Int.eq_ofNat_of_zero_le wb.1
  refine ⟨ks, lf, md, b, hks, hlf, hmd, hb, by omega, by omega, by omega, by omega, by omega, ?_⟩
  unfold lastH
  rw [hb, hmd, hks, Int.toNat_natCast, hlf]
