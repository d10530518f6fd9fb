theorem mat_no {W : Nat} {adj : Nat → Nat → Bool} (h : ∀ u w, adj u w = false) : ∀ (U : Nat) (X : Nat → Bool), mat W adj U X → ∀ w, X w = false
  | 0, _, hm => hm
  | k + 1, X, hm => by
    rcases hm with hm | ⟨w, a, b, c, e⟩
    · exact mat_no h k X hm
    · rw [h k w] at c; cases c
theorem stop_ex {s : Nat → Int} (ws : WS s) (P : Nat) (hP : P ≤ 8) (eP : s 0 = P) : moX s (2 ^ P - 1) = 0 := by
  obtain ⟨v, hv⟩ := most_ex (s 3).toNat (adjS (TmX s (2 ^ P - 1)) s) (s 2).toNat
  have em : moX s (2 ^ P - 1) = v := mostV_eq hv
  rw [em]
  have ad : ∀ u w, adjS (TmX s (2 ^ P - 1)) s u w = false := by
    intro u w
    unfold adjS
    cases o : wayO (TmX s (2 ^ P - 1)) s u w with
    | none => simp
    | some b =>
      exfalso
      have hb := TmB_X (TmB_told ws) (2 ^ P - 1)
      obtain ⟨_, _, _, bl, b8, bc, _⟩ := wayO_bd hb o
      have n2 := hb.n2
      have eT : (TmX s (2 ^ P - 1)).P = P := by show (s 0).toNat = P; omega
      match b, bl, b8, bc with
      | [], bl, _, _ => simp at bl; omega
      | [_], bl, _, _ => simp at bl; omega
      | q :: p :: t, _, b8, bc =>
        have g := (TmX_gv.mp bc.1).2
        have pP := b8 p (by simp)
        rw [Nat.testBit_two_pow_sub_one, decide_eq_true (by omega)] at g
        cases g
  obtain ⟨X, a, b⟩ := hv.2
  have x0 : X = fun _ => false := funext (mat_no ad _ X a)
  rw [x0, cntB_none (fun _ _ => rfl)] at b
  exact b.symm
theorem P_stop {d : Nat} {w : Wd} (h : Inv w) : Pair (d + 30) 154 267 [] w := by
  unfold Pair
  have pe := h.ws.pe
  obtain ⟨P, eP⟩ := Int.eq_ofNat_of_zero_le pe.1
  have hP : P ≤ 8 := by omega
  have p0 := Nat.two_pow_pos P
  have hex := stop_ex h.ws P hP eP
  apply X_stop_0_en
  intro n1
  refine S_try (d := d + 26) h ?_
  intro w3 tc
  refine L_stop5 (d := d) (n1 := n1) (w := w) h.ws P hP (by rw [h.rv.people]; exact eP) ⟨2 ^ P - 1, by omega, hex⟩ ?_ (P + 1) 0 w3 (by omega) ⟨Fr.tr (Fr.rfl' _ _) tc.fr (by decide), ?_, tc.rv, ?_⟩ (fun _ _ _ => Nat.zero_le _)
  · intro R w4 ms hl
    (apply Mid.k)
    apply M_stop_144_en
    intro n2
    refine L_s7 (d := d) (n1 := n2) (w := w) h.ws P hP eP ?_ (2 ^ P) 0 (-1) (ub w4 144 0 0) (by omega) ⟨Fr.ub (Fr.tr (Fr.rfl' _ _) ms.fr (by decide)) (by decide), ms.at1, fun i hi => ?_⟩ (Or.inl ⟨rfl, fun S hS => absurd hS (by omega)⟩)
    · intro x w5 rs hb
      have ex : x = (R : Int) := by
        rcases hb with ⟨_, q⟩ | ⟨R', q1, q2⟩
        · exact absurd hl.2.1 (q R hl.1)
        · rw [q1, LeastS.uniq q2 hl]
      refine Post.k ex (Inv.g_trial h rs.1 (fun i hi => ?_) rs.2.2) (rs.1 401 (by decide)) (rs.1 400 (by decide))
      simp only [List.mem_cons, List.not_mem_nil, or_false] at hi
      rw [hi, rs.2.1, h.wat.2]
    · have hi2 := hi
      simp only [List.mem_cons, List.not_mem_nil, or_false] at hi2
      show up1 (w4 144) 0 0 i = _
      rw [up1_ap, if_neg (by omega), ms.fr 144 (by decide)]
  · rw [tc.fr 113 (by decide)]
    exact h.wat.2
  · have e14 : up1 (w3 114) 7 (-1) = w3 114 := by
      funext i
      rw [up1_ap]
      by_cases y : i = 7
      · rw [if_pos y, y, tc.t7]
      · rw [if_neg y]
    rw [e14]
    exact tc.ct
