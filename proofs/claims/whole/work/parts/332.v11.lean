/-! the reference's reading, step by step -/
def M3 (w : Wd) (g h nm : Nat → Int) : Wd := ubf (ubf (ubf w 147 h) 149 nm) 144 g
theorem M3_g (w : Wd) (g h nm : Nat → Int) : M3 w g h nm 144 = g := ubf_self _ _ _
theorem M3_h (w : Wd) (g h nm : Nat → Int) : M3 w g h nm 147 = h := rfl
theorem M3_n (w : Wd) (g h nm : Nat → Int) : M3 w g h nm 149 = nm := rfl
theorem M3_ug (w : Wd) (g h nm : Nat → Int) (i : Nat) (v : Int) : ub (M3 w g h nm) 144 i v = M3 w (up1 g i v) h nm := ub_on _ _ _ _ _
theorem M3_fg (w : Wd) (g h nm g2 : Nat → Int) : ubf (M3 w g h nm) 144 g2 = M3 w g2 h nm := ubf_two _ _ _ _
theorem M3_uh (w : Wd) (g h nm : Nat → Int) (i : Nat) (v : Int) : ub (M3 w g h nm) 147 i v = M3 w g (up1 h i v) nm := by
  unfold M3
  funext c j
  simp only [ub_ap, ubf_ap]
  by_cases e : c = 147
  · subst e; rfl
  · rw [if_neg e]
    by_cases e2 : c = 144
    · subst e2; rfl
    · by_cases e3 : c = 149
      · subst e3; rfl
      · rw [if_neg e2, if_neg e3, if_neg e, if_neg e2, if_neg e3, if_neg e]
theorem M3_un (w : Wd) (g h nm : Nat → Int) (i : Nat) (v : Int) : ub (M3 w g h nm) 149 i v = M3 w g h (up1 nm i v) := by
  unfold M3
  funext c j
  simp only [ub_ap, ubf_ap]
  by_cases e : c = 149
  · subst e; rfl
  · rw [if_neg e]
    by_cases e2 : c = 144
    · subst e2; rfl
    · rw [if_neg e2, if_neg e, if_neg e2, if_neg e]
theorem M3_self (w : Wd) : M3 w (w 144) (w 147) (w 149) = w := by
  unfold M3
  rw [ubf_sf0, ubf_sf0, ubf_sf0]
def MSt (x : Tx) (p : Nat) (w : Wd) (g : Nat → Int) : Prop := (TxO x) ∧ (MdK g x p) ∧ (g 3 = x.L) ∧ (g 5 = x.M) ∧ (g 15 = 0) ∧ (∀ i, i < 1040 → iand (w 145 i) 255 = x.t i) ∧ (∀ j, j < 17 → w 150 j = nthA 0 resK j)
theorem MSt.mk {x : Tx} {p : Nat} {w : Wd} {g : Nat → Int} (tx_ : TxO x) (tok_ : MdK g x p) (f3_ : g 3 = x.L) (f5_ : g 5 = x.M) (f15_ : g 15 = 0) (tape_ : ∀ i, i < 1040 → iand (w 145 i) 255 = x.t i) (words_ : ∀ j, j < 17 → w 150 j = nthA 0 resK j) : MSt x p w g := And.intro tx_ (And.intro tok_ (And.intro f3_ (And.intro f5_ (And.intro f15_ (And.intro tape_ (words_))))))
theorem MSt.tx {x : Tx} {p : Nat} {w : Wd} {g : Nat → Int} (h_ : MSt x p w g) : TxO x := h_.1
theorem MSt.tok {x : Tx} {p : Nat} {w : Wd} {g : Nat → Int} (h_ : MSt x p w g) : MdK g x p := h_.2.1
theorem MSt.f3 {x : Tx} {p : Nat} {w : Wd} {g : Nat → Int} (h_ : MSt x p w g) : g 3 = x.L := h_.2.2.1
theorem MSt.f5 {x : Tx} {p : Nat} {w : Wd} {g : Nat → Int} (h_ : MSt x p w g) : g 5 = x.M := h_.2.2.2.1
theorem MSt.f15 {x : Tx} {p : Nat} {w : Wd} {g : Nat → Int} (h_ : MSt x p w g) : g 15 = 0 := h_.2.2.2.2.1
theorem MSt.tape {x : Tx} {p : Nat} {w : Wd} {g : Nat → Int} (h_ : MSt x p w g) : ∀ i, i < 1040 → iand (w 145 i) 255 = x.t i := h_.2.2.2.2.2.1
theorem MSt.words {x : Tx} {p : Nat} {w : Wd} {g : Nat → Int} (h_ : MSt x p w g) : ∀ j, j < 17 → w 150 j = nthA 0 resK j := h_.2.2.2.2.2.2
/-- the reference's fault -/
def MBd (e : Fl) (g : Nat → Int) : Prop := g 15 = e.1 ∧ g 16 = e.2
/-- what reading leaves of the reference's own fields -/
def GF (g0 g : Nat → Int) : Prop := ∀ i, i ≠ 4 → (i < 11 ∨ 20 < i) → g i = g0 i
theorem GF.r (g : Nat → Int) : GF g g := fun _ _ _ => rfl
theorem GF.u {g0 g : Nat → Int} (h : GF g0 g) {i : Nat} {v : Int} (hi : i = 4 ∨ (11 ≤ i ∧ i ≤ 20)) : GF g0 (up1 g i v) := fun j a b => by
  rw [up1_ne _ (by omega)]; exact h j a b
theorem GF.t {g0 g g2 : Nat → Int} (h : GF g0 g) (h2 : GF g g2) : GF g0 g2 := fun j a b => by rw [h2 j a b, h j a b]
/-- the end of a method that failed -/
def gB (g : Nat → Int) (v : Int) : Nat → Int := up1 (up1 g 15 v) 16 (g 12)
theorem gB_w (w : Wd) (g h nm : Nat → Int) (v : Int) : ub (ub (M3 w g h nm) 144 15 v) 144 16 ((M3 w g h nm) 144 12) = M3 w (gB g v) h nm := by
  rw [M3_g, M3_ug, M3_ug]; rfl
theorem gB_f {g0 g : Nat → Int} (h : GF g0 g) (v : Int) : GF g0 (gB g v) := (h.u (Or.inr (by omega))).u (Or.inr (by omega))
theorem gB_b {g : Nat → Int} {x : Tx} {p : Nat} (h : MdK g x p) (v : Int) : MBd (v, plF x p) (gB g v) := ⟨by unfold gB; rw [up1_ne _ (by decide), up1_self], by unfold gB; rw [up1_self]; exact h.pl⟩
theorem MdK_4 {g : Nat → Int} {x : Tx} {p : Nat} (h : MdK g x p) (h3 : 3 ≤ tkF x p) : g 4 = nxF x p := by
  have tl := tkF_le (x := x) (p := p)
  by_cases a : tkF x p ≤ 4
  · by_cases b : tkF x p = 3
    · exact (h.k3 b).2.2
    · exact (h.k4 (by omega)).2.2
  · by_cases b : tkF x p = 6
    · exact (h.k6 b).2.2
    · exact (h.kw (tkF x p - 10) (by omega)).2.2
theorem MdK_11 {g : Nat → Int} {x : Tx} {p : Nat} (h : MdK g x p) : (g 11 = 0 ↔ tkF x p = 0) ∧ (g 11 = 3 ↔ tkF x p = 3) ∧ (g 11 = 2 ↔ tkF x p = 4) ∧ (g 11 = 1 ↔ 6 ≤ tkF x p) := by
  have tl := tkF_le (x := x) (p := p)
  rcases (show tkF x p = 0 ∨ tkF x p = 1 ∨ tkF x p = 2 ∨ tkF x p = 3 ∨ tkF x p = 4 ∨ tkF x p = 6 ∨ 10 ≤ tkF x p by omega) with e | e | e | e | e | e | e
  · have := h.k0 e; omega
  · have := h.k1 e; omega
  · have := h.k2 e; omega
  · have := (h.k3 e).1; omega
  · have := (h.k4 e).1; omega
  · have := (h.k6 e).1; omega
  · have := (h.kw (tkF x p - 10) (by omega)).1; omega
theorem MdK_no {g : Nat → Int} {x : Tx} {p j : Nat} (h : MdK g x p) (hj : j < 17) (z : ¬ tkF x p = 10 + j) : ¬ (g 11 = 1 ∧ cmp3 (g 17) (nthA 0 resK j) = 0) := fun c => by
  have tl := tkF_le (x := x) (p := p)
  have k := (MdK_11 h).2.2.2.mp c.1
  have c2 := cmp3_zero.mp c.2
  by_cases b : tkF x p = 6
  · rw [(h.k6 b).2.1] at c2
    exact tkF_no b hj c2
  · have t := h.kw (tkF x p - 10) (by omega)
    have hb : tkF x p - 10 < 17 := by omega
    have r := kw_res _ hb
    rw [← t.2.1, c2, kw_res j hj] at r
    omega
theorem MdK_yes {g : Nat → Int} {x : Tx} {p j : Nat} (h : MdK g x p) (z : tkF x p = 10 + j) : g 11 = 1 ∧ cmp3 (g 17) (nthA 0 resK j) = 0 := by
  have t := h.kw j z
  exact ⟨t.1, cmp3_zero.mpr t.2.1⟩
theorem wd_no {A B X Y : Prop} (h : ¬ (A ∧ B)) (x : X) : (¬ A → X) ∧ (¬ (¬ A) → ((¬ B → X) ∧ (¬ (¬ B) → Y))) := ⟨fun _ => x, fun a => ⟨fun _ => x, fun b => absurd ⟨Classical.not_not.mp a, Classical.not_not.mp b⟩ h⟩⟩
theorem wd_yes {A B X Y : Prop} (h : A ∧ B) (y : Y) : (¬ A → X) ∧ (¬ (¬ A) → ((¬ B → X) ∧ (¬ (¬ B) → Y))) := ⟨fun a => absurd h.1 a, fun _ => ⟨fun b => absurd h.2 b, fun _ => y⟩⟩
theorem N_next {d : Nat} {Q : MV → Wd → Prop} {w : Wd} {x : Tx} {p : Nat} {g h nm : Nat → Int} (hs : MSt x p w g) (h3 : 3 ≤ tkF x p) (k : ∀ g2 : Nat → Int, MSt x (nxF x p) w g2 → GF g g2 → g2 18 = g 18 → g2 19 = g 19 → g2 20 = g 20 → Q none (M3 w g2 h nm)) : Cw (d + 2) 175 [mR 144] (M3 w g h nm) Q := by
  have n := tkF_nx h3
  refine S_next (d := d) (w := M3 w g h nm) (x := x) hs.tx hs.tape (p := nxF x p) n.2 ?_ ?_ ?_ (fun g2 hg fr => ?_)
  · rw [M3_g]; exact hs.f3
  · rw [M3_g]; exact hs.f5
  · rw [M3_g]; exact MdK_4 hs.tok h3
  · rw [M3_g] at fr
    rw [M3_fg]
    refine k g2 (MSt.mk hs.tx (MdT_K hg) ?_ ?_ ?_ hs.tape hs.words) (fun i a b => fr i a (by omega) (by omega) (by omega) (by omega) (by omega)) (fr 18 (by omega) (by omega) (by omega) (by omega) (by omega) (by omega)) (fr 19 (by omega) (by omega) (by omega) (by omega) (by omega) (by omega)) (fr 20 (by omega) (by omega) (by omega) (by omega) (by omega) (by omega))
    · rw [fr 3 (by omega) (by omega) (by omega) (by omega) (by omega) (by omega)]; exact hs.f3
    · rw [fr 5 (by omega) (by omega) (by omega) (by omega) (by omega) (by omega)]; exact hs.f5
    · rw [fr 15 (by omega) (by omega) (by omega) (by omega) (by omega) (by omega)]; exact hs.f15
theorem MSt.g18 {x : Tx} {p : Nat} {w : Wd} {g : Nat → Int} (h : MSt x p w g) (i : Nat) (v : Int) (hi : 18 ≤ i) : MSt x p w (up1 g i v) := by
  have e : ∀ j, j < 18 → (up1 g i v) j = g j := fun j hj => up1_ne _ (by omega)
  refine MSt.mk h.tx ?_ (by rw [e 3 (by omega)]; exact h.f3) (by rw [e 5 (by omega)]; exact h.f5) (by rw [e 15 (by omega)]; exact h.f15) h.tape h.words
  have e4 := e 4 (by omega)
  have e11 := e 11 (by omega)
  have e12 := e 12 (by omega)
  have e14 := e 14 (by omega)
  have e17 := e 17 (by omega)
  exact MdK.mk (by rw [e12]; exact h.tok.pl) (fun z => by rw [e11]; exact h.tok.k0 z) (fun z => by rw [e11]; exact h.tok.k1 z) (fun z => by rw [e11]; exact h.tok.k2 z) (fun z => by rw [e11, e14, e4]; exact h.tok.k3 z) (fun z => by rw [e11, e14, e4]; exact h.tok.k4 z) (fun z => by rw [e11, e17, e4]; exact h.tok.k6 z) (fun j z => by rw [e11, e17, e4]; exact h.tok.kw j z)
theorem N_num {d : Nat} {Q : MV → Wd → Prop} {w : Wd} {x : Tx} {p : Nat} {g h nm : Nat → Int} {lo hi : Int} (hs : MSt x p w g)
    (kb : ∀ (e : Fl) (g2 : Nat → Int), numF x lo hi p = .inl e → GF g g2 → MBd e g2 → Q (mI 0) (M3 w g2 h nm))
    (kg : lo ≤ vnF x p → vnF x p ≤ hi → numF x lo hi p = .inr (vnF x p, nxF x p) → ∀ g2 : Nat → Int, MSt x (nxF x p) w g2 → GF g g2 → g2 18 = vnF x p → g2 19 = g 19 → g2 20 = g 20 → Q (mI 1) (M3 w g2 h nm)) : Cw (d + 3) 186 [mR 144, mI lo, mI hi] (M3 w g h nm) Q := by
  have k11 := MdK_11 hs.tok
  apply M_takes_144_en (d := d + 1)
  rw [gB_w, gB_w, M3_g]
  by_cases z : tkF x p = 4
  · have t := hs.tok.k4 z
    rw [t.1, t.2.1]
    refine ⟨fun _ => ⟨fun y => ?_, fun y => ⟨fun y2 => ?_, fun y2 => ?_⟩⟩, fun y => absurd rfl y⟩
    · exact kb (2, plF x p) _ (by unfold numF; rw [if_pos z, if_neg (by omega)]) (gB_f (GF.r g) 2) (gB_b hs.tok 2)
    · exact kb (2, plF x p) _ (by unfold numF; rw [if_pos z, if_neg (by omega)]) (gB_f (GF.r g) 2) (gB_b hs.tok 2)
    · rw [M3_ug]
      refine N_next (d := d) (hs.g18 18 (vnF x p) (by omega)) (by omega) (fun g2 hs2 f e18 e19 e20 => ?_)
      exact kg (by omega) (by omega) (by unfold numF; rw [if_pos z, if_pos ⟨by omega, by omega⟩]) g2 hs2 (((GF.r g).u (Or.inr (by omega))).t f) (by rw [e18, up1_self]) (by rw [e19, up1_ne _ (by decide)]) (by rw [e20, up1_ne _ (by decide)])
  · refine ⟨fun y => absurd (k11.2.2.1.mp y) z, fun _ => ?_⟩
    exact kb (1, plF x p) _ (by unfold numF; rw [if_neg z]) (gB_f (GF.r g) 1) (gB_b hs.tok 1)
theorem N_isName {d : Nat} {Q : MV → Wd → Prop} {w : Wd} {x : Tx} {p : Nat} {g h nm : Nat → Int} (hs : MSt x p w g)
    (ky : tkF x p = 6 → Q (mI 1) (M3 w g h nm)) (kn : ¬ tkF x p = 6 → Q (mI 0) (M3 w g h nm)) : Cw (d + 1) 184 [mR 144] (M3 w g h nm) Q := by
  have k11 := MdK_11 hs.tok
  have tl := tkF_le (x := x) (p := p)
  apply M_isName_144_en (d := d)
  intro n1
  have l0 : ¬ tkF x p = 6 → ∀ m i : Nat, i + m = 17 → Wp (Cw (d + 0)) cd_M_isName (2, 0, n1) Q 10 [mR 144, mI 0, mI (i : Nat)] [] (M3 w g h nm) := by
    intro z m
    induction m with
    | zero =>
      intro i hi
      apply M_isName_144_c10
      exact ⟨fun _ => ⟨Or.inl rfl, kn z⟩, fun y => by exfalso; omega⟩
    | succ m ih =>
      intro i hi
      apply M_isName_144_c10
      rw [ixs (k := i) (by omega)]
      exact ⟨fun y => by exfalso; omega, fun _ => ⟨fun _ => ih (i + 1) (by omega), fun y => absurd rfl y⟩⟩
  have l1 : 6 ≤ tkF x p → ∀ m i : Nat, i + m = 17 → (∀ j, j < i → ¬ tkF x p = 10 + j) → Wp (Cw (d + 0)) cd_M_isName (2, 0, n1) Q 10 [mR 144, mI 1, mI (i : Nat)] [] (M3 w g h nm) := by
    intro z m
    induction m with
    | zero =>
      intro i hi hj
      apply M_isName_144_c10
      refine ⟨fun _ => ⟨Or.inr rfl, ky ?_⟩, fun y => by exfalso; omega⟩
      by_cases c : tkF x p = 6
      · exact c
      · exact absurd (show tkF x p = 10 + (tkF x p - 10) by omega) (hj (tkF x p - 10) (by omega))
    | succ m ih =>
      intro i hi hj
      have e150 : (M3 w g h nm) 150 i = nthA 0 resK i := hs.words i (by omega)
      apply M_isName_144_c10
      rw [ixs (k := i) (by omega), Int.toNat_natCast, e150, M3_g]
      refine ⟨fun y => by exfalso; omega, fun _ => ⟨fun y => absurd y (by decide), fun _ => ⟨by omega, fun y => ?_, fun y => ?_⟩⟩⟩
      · refine l0 (fun c => ?_) m (i + 1) (by omega)
        have := cmp3_zero.mp y
        rw [(hs.tok.k6 c).2.1] at this
        exact tkF_no c (by omega) this
      · refine ih (i + 1) (by omega) (fun j hj2 c => ?_)
        by_cases e : j = i
        · subst e
          exact y (MdK_yes hs.tok c).2
        · exact hj j (by omega) c
  rw [M3_g]
  refine ⟨fun y => ?_, fun y => ?_⟩
  · exact l0 (fun c => y (k11.2.2.2.mpr (by omega))) 17 0 (by omega)
  · exact l1 (k11.2.2.2.mp (Classical.not_not.mp y)) 17 0 (by omega) (fun j hj => absurd hj (Nat.not_lt_zero _))
theorem N_find {d : Nat} {Q : MV → Wd → Prop} {w : Wd} {g h nm : Nat → Int} {a n : Nat} (han : a + n ≤ 28) (k : Q (mI (fdF nm (g 17) a n)) (M3 w g h nm)) : Cw (d + 1) 185 [mR 144, mI (a : Nat), mI (n : Nat)] (M3 w g h nm) Q := by
  apply M_find_144_en (d := d)
  intro n1
  have lp : ∀ m i : Nat, i + m = n → Q (mI (fnF nm (g 17) a m i)) (M3 w g h nm) → Wp (Cw (d + 0)) cd_M_find (1, 0, n1) Q 2 [mR 144, mI (a : Nat), mI (n : Nat), mI (i : Nat)] [] (M3 w g h nm) := by
    intro m
    induction m with
    | zero =>
      intro i hi hq
      apply M_find_144_c2
      exact ⟨fun _ => hq, fun z => by exfalso; omega⟩
    | succ m ih =>
      intro i hi hq
      have hq : Q (mI (if nm (a + i) = g 17 then (i : Int) else fnF nm (g 17) a m (i + 1))) (M3 w g h nm) := hq
      apply M_find_144_c2
      rw [ixs (k := i) (by omega), show w32 ((a : Int) + (i : Int)) = ((a + i : Nat) : Int) by rw [w32_id (by unfold in32; omega)]; omega, Int.toNat_natCast, M3_g, M3_n]
      refine ⟨fun z => by exfalso; omega, fun _ => ⟨by omega, fun z => ?_, fun z => ?_⟩⟩
      · rw [if_neg (fun y => z (cmp3_zero.mpr y))] at hq
        exact ih (i + 1) (by omega) hq
      · rw [if_pos (cmp3_zero.mp (Classical.not_not.mp z))] at hq
        exact hq
  refine lp n 0 (by omega) ?_
  unfold fdF at k
  rw [Int.toNat_natCast] at k
  exact k
theorem N_who {d : Nat} {Q : MV → Wd → Prop} {w : Wd} {x : Tx} {p : Nat} {g h nm : Nat → Int} {but : Int} (hs : MSt x p w g) (h0 : 0 ≤ h 0 ∧ h 0 ≤ 8)
    (kb : ∀ (e : Fl) (g2 : Nat → Int), whF x h nm but p = .inl e → GF g g2 → MBd e g2 → Q (mI 0) (M3 w g2 h nm))
    (kg : ∀ v : Int, whF x h nm but p = .inr (v, nxF x p) → ∀ g2 : Nat → Int, MSt x (nxF x p) w g2 → GF g g2 → g2 18 = v → g2 19 = g 19 → g2 20 = g 20 → Q (mI 1) (M3 w g2 h nm)) : Cw (d + 3) 190 [mR 144, mI but] (M3 w g h nm) Q := by
  apply M_takesWho_144_en (d := d + 1)
  refine N_isName (d := d + 1) hs (fun z => ⟨_, rfl, fun _ => ?_, fun y => absurd (by decide) y⟩) (fun z => ⟨_, rfl, fun y => absurd rfl y, fun _ => ?_⟩)
  · obtain ⟨n, hn⟩ : ∃ n : Nat, h 0 = n := ⟨(h 0).toNat, by omega⟩
    rw [M3_h, hn]
    have bd := fdF_bd nm (f256 (liF x p)) 14 (h 0)
    have wd : whF x h nm but p = if fdF nm (f256 (liF x p)) 14 (h 0) < 0 ∨ fdF nm (f256 (liF x p)) 14 (h 0) = but then .inl (3, plF x p) else .inr (fdF nm (f256 (liF x p)) 14 (h 0), nxF x p) := by unfold whF; rw [if_pos z]
    have c17 := (hs.tok.k6 z).2.1
    rw [hn, ← c17] at wd bd
    refine N_find (d := d + 1) (a := 14) (n := n) (by omega) ⟨_, rfl, fun y => ?_, fun y => ⟨fun y2 => ?_, fun y2 => ?_⟩⟩
    · rw [M3_g, M3_ug, M3_ug, M3_ug]
      refine kb (3, plF x p) _ (by rw [wd, if_pos (Or.inl y)]) ((((GF.r g).u (Or.inr (by omega))).u (Or.inr (by omega))).u (Or.inr (by omega))) ⟨by rw [up1_ne _ (by decide), up1_self], by rw [up1_self]; exact hs.tok.pl⟩
    · rw [M3_ug]
      refine N_next (d := d) (hs.g18 18 _ (by omega)) (by omega) (fun g2 hs2 f e18 e19 e20 => ?_)
      exact kg _ (by rw [wd, if_neg (by omega)]) g2 hs2 (((GF.r g).u (Or.inr (by omega))).t f) (by rw [e18, up1_self]) (by rw [e19, up1_ne _ (by decide)]) (by rw [e20, up1_ne _ (by decide)])
    · rw [M3_g, M3_ug, M3_ug, M3_ug]
      refine kb (3, plF x p) _ (by rw [wd, if_pos (Or.inr (Classical.not_not.mp y2))]) ((((GF.r g).u (Or.inr (by omega))).u (Or.inr (by omega))).u (Or.inr (by omega))) ⟨by rw [up1_ne _ (by decide), up1_self], by rw [up1_self]; exact hs.tok.pl⟩
  · rw [gB_w]
    exact kb (1, plF x p) _ (by unfold whF; rw [if_neg z]) (gB_f (GF.r g) 1) (gB_b hs.tok 1)
theorem N_sort {d : Nat} {Q : MV → Wd → Prop} {w : Wd} {x : Tx} {p : Nat} {g h nm : Nat → Int} (hs : MSt x p w g) (h0 : 0 ≤ h 1 ∧ h 1 ≤ 6)
    (kb : ∀ (e : Fl) (g2 : Nat → Int), soF x h nm p = .inl e → GF g g2 → MBd e g2 → Q (mI 0) (M3 w g2 h nm))
    (kg : ∀ v : Int, soF x h nm p = .inr (v, nxF x p) → ∀ g2 : Nat → Int, MSt x (nxF x p) w g2 → GF g g2 → g2 18 = v → g2 19 = g 19 → g2 20 = g 20 → Q (mI 1) (M3 w g2 h nm)) : Cw (d + 3) 191 [mR 144] (M3 w g h nm) Q := by
  apply M_takesSort_144_en (d := d + 1)
  refine N_isName (d := d + 1) hs (fun z => ⟨_, rfl, fun _ => ?_, fun y => absurd (by decide) y⟩) (fun z => ⟨_, rfl, fun y => absurd rfl y, fun _ => ?_⟩)
  · obtain ⟨n, hn⟩ : ∃ n : Nat, h 1 = n := ⟨(h 1).toNat, by omega⟩
    rw [M3_h, hn]
    have bd := fdF_bd nm (f256 (liF x p)) 22 (h 1)
    have wd : soF x h nm p = if fdF nm (f256 (liF x p)) 22 (h 1) < 0 then .inl (3, plF x p) else .inr (fdF nm (f256 (liF x p)) 22 (h 1), nxF x p) := by unfold soF; rw [if_pos z]
    have c17 := (hs.tok.k6 z).2.1
    rw [hn, ← c17] at wd bd
    refine N_find (d := d + 1) (a := 22) (n := n) (by omega) ⟨_, rfl, fun y => ?_, fun y => ?_⟩
    · rw [M3_ug]
      refine N_next (d := d) (hs.g18 18 _ (by omega)) (by omega) (fun g2 hs2 f e18 e19 e20 => ?_)
      exact kg _ (by rw [wd, if_neg (by omega)]) g2 hs2 (((GF.r g).u (Or.inr (by omega))).t f) (by rw [e18, up1_self]) (by rw [e19, up1_ne _ (by decide)]) (by rw [e20, up1_ne _ (by decide)])
    · rw [M3_g, M3_ug, M3_ug, M3_ug]
      refine kb (3, plF x p) _ (by rw [wd, if_pos (by omega)]) ((((GF.r g).u (Or.inr (by omega))).u (Or.inr (by omega))).u (Or.inr (by omega))) ⟨by rw [up1_ne _ (by decide), up1_self], by rw [up1_self]; exact hs.tok.pl⟩
  · rw [gB_w]
    exact kb (1, plF x p) _ (by unfold soF; rw [if_neg z]) (gB_f (GF.r g) 1) (gB_b hs.tok 1)
theorem N_fresh {d : Nat} {Q : MV → Wd → Prop} {w : Wd} {x : Tx} {p : Nat} {g h nm : Nat → Int} (hs : MSt x p w g) (h0 : 0 ≤ h 0 ∧ h 0 ≤ 8) (h1 : 0 ≤ h 1 ∧ h 1 ≤ 6)
    (kb : ∀ (e : Fl) (g2 : Nat → Int), frF x h nm p = .inl e → GF g g2 → MBd e g2 → Q (mI 0) (M3 w g2 h nm))
    (kg : tkF x p = 6 → frF x h nm p = .inr (f256 (liF x p), nxF x p) → Q (mI 1) (M3 w g h nm)) : Cw (d + 3) 183 [mR 144] (M3 w g h nm) Q := by
  apply M_fresh_144_en (d := d + 1)
  refine N_isName (d := d + 1) hs (fun z => ⟨_, rfl, fun _ => ?_, fun y => absurd (by decide) y⟩) (fun z => ⟨_, rfl, fun y => absurd rfl y, fun _ => ?_⟩)
  · obtain ⟨n, hn⟩ : ∃ n : Nat, h 0 = n := ⟨(h 0).toNat, by omega⟩
    obtain ⟨m, hm⟩ : ∃ n : Nat, h 1 = n := ⟨(h 1).toNat, by omega⟩
    rw [M3_h, hn]
    have bd := fdF_bd nm (f256 (liF x p)) 14 (h 0)
    have bd2 := fdF_bd nm (f256 (liF x p)) 22 (h 1)
    have wd : frF x h nm p = if 0 ≤ fdF nm (f256 (liF x p)) 14 (h 0) ∨ 0 ≤ fdF nm (f256 (liF x p)) 22 (h 1) then .inl (3, plF x p) else .inr (f256 (liF x p), nxF x p) := by unfold frF; rw [if_pos z]
    have c17 := (hs.tok.k6 z).2.1
    rw [hn, hm, ← c17] at wd
    rw [hn, ← c17] at bd
    rw [hm, ← c17] at bd2
    refine N_find (d := d + 1) (a := 14) (n := n) (by omega) ⟨_, rfl, fun y => ?_, fun y => ?_⟩
    · rw [gB_w]
      exact kb (3, plF x p) _ (by rw [wd, if_pos (Or.inl y)]) (gB_f (GF.r g) 3) (gB_b hs.tok 3)
    · rw [M3_h, hm]
      refine N_find (d := d + 1) (a := 22) (n := m) (by omega) ⟨_, rfl, fun y2 => ?_, fun y2 => ?_⟩
      · exact kg z (by rw [wd, if_neg (by omega), c17])
      · rw [gB_w]
        exact kb (3, plF x p) _ (by rw [wd, if_pos (Or.inr (by omega))]) (gB_f (GF.r g) 3) (gB_b hs.tok 3)
  · rw [gB_w]
    exact kb (1, plF x p) _ (by unfold frF; rw [if_neg z]) (gB_f (GF.r g) 1) (gB_b hs.tok 1)
theorem N_sign {d : Nat} {Q : MV → Wd → Prop} {w : Wd} {x : Tx} {p : Nat} {g h nm : Nat → Int} (hs : MSt x p w g)
    (kn : ¬ tkF x p = 3 → ∀ g2 : Nat → Int, GF g g2 → MBd (1, plF x p) g2 → Q (mI 0) (M3 w g2 h nm))
    (ky : tkF x p = 3 → ∀ g2 : Nat → Int, MSt x (nxF x p) w g2 → GF g g2 → g2 19 = g 19 → g2 20 = g 20 → Q (mI 1) (M3 w g2 h nm)) : Cw (d + 3) 195 [mR 144, mI 59] (M3 w g h nm) Q := by
  have k11 := MdK_11 hs.tok
  apply M_sign_144_en (d := d + 1)
  rw [gB_w, M3_g]
  by_cases z : tkF x p = 3
  · have t := hs.tok.k3 z
    rw [t.1, t.2.1]
    exact ⟨fun y => absurd rfl y, fun _ => ⟨fun y => absurd rfl y, fun _ => N_next (d := d) hs (by omega) (fun g2 hs2 f _ e19 e20 => ky z g2 hs2 f e19 e20)⟩⟩
  · exact ⟨fun _ => kn z _ (gB_f (GF.r g) 1) (gB_b hs.tok 1), fun y => absurd (k11.2.1.mp (Classical.not_not.mp y)) z⟩
