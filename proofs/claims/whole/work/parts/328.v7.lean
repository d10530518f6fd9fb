/-! the class's reading, step by step -/
def CSt (x : Tx) (p : Nat) (w : Wd) : Prop := (TxO x) ∧ (ClK (w 2) x p) ∧ (w 2 8 = 0) ∧ (∀ i, i < 1040 → w 1 i = x.t i) ∧ (∀ i, i < 17 → w 3 i = nthA 0 tokK i)
theorem CSt.mk {x : Tx} {p : Nat} {w : Wd} (tx_ : TxO x) (tok_ : ClK (w 2) x p) (ok_ : w 2 8 = 0) (tape_ : ∀ i, i < 1040 → w 1 i = x.t i) (words_ : ∀ i, i < 17 → w 3 i = nthA 0 tokK i) : CSt x p w := And.intro tx_ (And.intro tok_ (And.intro ok_ (And.intro tape_ (words_))))
theorem CSt.tx {x : Tx} {p : Nat} {w : Wd} (h_ : CSt x p w) : TxO x := h_.1
theorem CSt.tok {x : Tx} {p : Nat} {w : Wd} (h_ : CSt x p w) : ClK (w 2) x p := h_.2.1
theorem CSt.ok {x : Tx} {p : Nat} {w : Wd} (h_ : CSt x p w) : w 2 8 = 0 := h_.2.2.1
theorem CSt.tape {x : Tx} {p : Nat} {w : Wd} (h_ : CSt x p w) : ∀ i, i < 1040 → w 1 i = x.t i := h_.2.2.2.1
theorem CSt.words {x : Tx} {p : Nat} {w : Wd} (h_ : CSt x p w) : ∀ i, i < 17 → w 3 i = nthA 0 tokK i := h_.2.2.2.2
/-- the class's fault -/
def CBd (e : Fl) (w : Wd) : Prop := w 2 8 = e.1 ∧ w 2 7 = e.2
theorem CSt.mv {x : Tx} {p : Nat} {w w2 : Wd} (h : CSt x p w) (h2 : w2 2 = w 2) (h1 : w2 1 = w 1) (h3 : w2 3 = w 3) : CSt x p w2 := CSt.mk h.tx (by rw [h2]; exact h.tok) (by rw [h2]; exact h.ok) (by rw [h1]; exact h.tape) (by rw [h3]; exact h.words)
theorem K_adv {d : Nat} {Q : MV → Wd → Prop} {w : Wd} {x : Tx} {p : Nat} (h : CSt x p w) (h3 : 3 ≤ tkF x p) (k : ∀ o : Nat → Int, CSt x (nxF x p) (ubf w 2 o) → Q none (ubf w 2 o)) : Cw (d + 4) 18 [mR 2] w Q := by
  have n := tkF_nx h3
  have hL := h.tx.L
  have h4 : w 2 4 = nxF x p := by
    have tl := tkF_le (x := x) (p := p)
    by_cases a : tkF x p ≤ 4
    · by_cases b : tkF x p = 3
      · exact h.tok.k3 b
      · exact (h.tok.k4 (by omega)).1
    · by_cases b : tkF x p = 6
      · exact (h.tok.k6 b).2.1
      · exact (h.tok.kw (tkF x p - 10) (by omega)).2.1
  refine S_advance (d := d + 1) h.tx h.tape h.words (p := nxF x p) (by omega) h.tok.len h.tok.rd' h4 (fun o ho o8 _ => ?_)
  refine k o (CSt.mk h.tx ?_ ?_ h.tape h.words)
  · rw [ubf_self]; exact ClT_K ho
  · rw [ubf_self, o8]; exact h.ok
theorem K_num {d : Nat} {Q : MV → Wd → Prop} {w : Wd} {x : Tx} {p : Nat} {lo hi : Int} (h : CSt x p w)
    (kb : ∀ (e : Fl) (v : Int), numF x lo hi p = .inl e → CBd e (ub w 2 8 v) → Q (mI 0) (ub w 2 8 v))
    (kg : tkF x p = 4 → lo ≤ vnF x p → vnF x p ≤ hi → numF x lo hi p = .inr (vnF x p, nxF x p) → w 2 6 = vnF x p → Q (mI 1) w) : Cw (d + 4) 34 [mR 2, mI lo, mI hi] w Q := by
  have pl : ∀ v : Int, (ub w 2 8 v) 2 7 = plF x p := fun v => by
    have : (ub w 2 8 v) 2 7 = w 2 7 := rfl
    rw [this]; exact h.tok.pl
  have s8 : ∀ v : Int, (ub w 2 8 v) 2 8 = v := fun v => rfl
  apply Tokens_isNumber_2_en (d := d + 2)
  by_cases z : tkF x p = 4
  · have o5 : w 2 5 = 4 := by rw [h.tok.k0 (by omega), z]; rfl
    have o6 := (h.tok.k4 z).2
    rw [o5, o6]
    refine ⟨fun _ => ⟨fun y => ?_, fun y => ⟨fun y2 => ?_, fun y2 => ?_⟩⟩, fun y => absurd rfl y⟩
    · exact kb (2, plF x p) 2 (by unfold numF; rw [if_pos z, if_neg (by omega)]) ⟨s8 2, pl 2⟩
    · exact kg z (by omega) y2 (by unfold numF; rw [if_pos z, if_pos ⟨by omega, y2⟩]) o6
    · exact kb (2, plF x p) 2 (by unfold numF; rw [if_pos z, if_neg (by omega)]) ⟨s8 2, pl 2⟩
  · have o5 : ¬ w 2 5 = 4 := fun y => by
      have tl := tkF_le (x := x) (p := p)
      by_cases a : tkF x p < 5
      · rw [h.tok.k0 a] at y; omega
      · by_cases b : tkF x p = 6
        · rw [(h.tok.k6 b).1] at y; omega
        · rw [(h.tok.kw (tkF x p - 10) (by omega)).1] at y; omega
    refine ⟨fun y => absurd y o5, fun _ => ?_⟩
    exact kb (1, plF x p) 1 (by unfold numF; rw [if_neg z]) ⟨s8 1, pl 1⟩
theorem K_take {d : Nat} {Q : MV → Wd → Prop} {w : Wd} {x : Tx} {p : Nat} {v : Int} (h : CSt x p w) (h3 : 3 ≤ tkF x p) (hv : w 2 6 = v) (k : ∀ o : Nat → Int, CSt x (nxF x p) (ubf w 2 o) → Q (mI v) (ubf w 2 o)) : Cw (d + 5) 32 [mR 2] w Q := by
  apply Tokens_takeValue_2_en (d := d + 4)
  rw [hv]
  exact K_adv (d := d) (Q := fun _ v1 => Q (mI v) v1) h h3 k
theorem K_skip {d : Nat} {Q : MV → Wd → Prop} {w : Wd} {x : Tx} {p : Nat} {kw : Nat} (h : CSt x p w) (hk : kw < 17) (kn : ¬ tkF x p = 10 + kw → Q (mI 0) w) (ky : tkF x p = 10 + kw → ∀ o : Nat → Int, CSt x (nxF x p) (ubf w 2 o) → Q (mI 1) (ubf w 2 o)) : Cw (d + 5) 33 [mR 2, mI (kw : Nat)] w Q := by
  apply Tokens_skipWord_2_en (d := d + 3)
  have tl := tkF_le (x := x) (p := p)
  by_cases z : tkF x p = 10 + kw
  · have t := h.tok.kw kw z
    rw [t.1, t.2.2]
    exact ⟨fun y => absurd rfl y, fun _ => ⟨fun _ => K_adv h (by omega) (ky z), fun y => absurd rfl y⟩⟩
  · refine ⟨fun y => ⟨fun y2 => by exfalso; omega, fun _ => kn z⟩, fun y => ⟨fun y2 => ?_, fun _ => kn z⟩⟩
    exfalso
    by_cases a : tkF x p < 5
    · rw [h.tok.k0 a] at y; omega
    · by_cases b : tkF x p = 6
      · rw [(h.tok.k6 b).1] at y; omega
      · have t := h.tok.kw (tkF x p - 10) (by omega)
        rw [t.2.2] at y2; omega
theorem K_semi {d : Nat} {Q : MV → Wd → Prop} {w : Wd} {x : Tx} {p : Nat} (h : CSt x p w) (kn : ¬ tkF x p = 3 → CBd (1, plF x p) (ub w 2 8 1) → Q (mI 0) (ub w 2 8 1)) (ky : tkF x p = 3 → ∀ o : Nat → Int, CSt x (nxF x p) (ubf w 2 o) → Q (mI 1) (ubf w 2 o)) : Cw (d + 5) 45 [mR 2] w Q := by
  apply Tokens_semicolon_2_en (d := d + 3)
  have tl := tkF_le (x := x) (p := p)
  by_cases z : tkF x p = 3
  · have o5 : w 2 5 = 3 := by rw [h.tok.k0 (by omega), z]; rfl
    exact ⟨fun _ => K_adv h (by omega) (ky z), fun y => absurd o5 y⟩
  · have o5 : ¬ w 2 5 = 3 := fun y => by
      by_cases a : tkF x p < 5
      · rw [h.tok.k0 a] at y; omega
      · by_cases b : tkF x p = 6
        · rw [(h.tok.k6 b).1] at y; omega
        · rw [(h.tok.kw (tkF x p - 10) (by omega)).1] at y; omega
    refine ⟨fun y => absurd y o5, fun _ => kn z ⟨rfl, ?_⟩⟩
    show w 2 7 = _
    exact h.tok.pl
theorem ClK_name {o : Nat → Int} {x : Tx} {p : Nat} (h : ClK o x p) : (tkF x p = 6 → o 5 = 6) ∧ (¬ tkF x p = 6 → ¬ o 5 = 6) := by
  refine ⟨fun z => (h.k6 z).1, fun z y => ?_⟩
  have tl := tkF_le (x := x) (p := p)
  by_cases a : tkF x p < 5
  · rw [h.k0 a] at y; omega
  · rw [(h.kw (tkF x p - 10) (by omega)).1] at y; omega
theorem ClK_kw {o : Nat → Int} {x : Tx} {p : Nat} (h : ClK o x p) : (tkF x p < 10 → ¬ o 5 = 5) ∧ (¬ tkF x p < 10 → o 5 = 5 ∧ o 6 = ((tkF x p - 10 : Nat) : Int)) := by
  have tl := tkF_le (x := x) (p := p)
  refine ⟨fun z y => ?_, fun z => ?_⟩
  · by_cases a : tkF x p < 5
    · rw [h.k0 a] at y; omega
    · rw [(h.k6 (by omega)).1] at y; omega
  · have := h.kw (tkF x p - 10) (by omega)
    exact ⟨this.1, this.2.2⟩
/-- the class's names stand for the reference's -/
def NmR (nc nm : Nat → Int) (a : Nat) (n : Int) : Prop := ∀ p : Nat, (p : Int) < n → NameR (nc p) (nm (a + p))
theorem nameTok {x : Tx} {p : Nat} (h : tkF x p = 6) : NameR (f27 (liF x p)) (f256 (liF x p)) := ⟨liF x p, liF_ok (tkF_le.2.1 h), rfl, rfl⟩
theorem K_ix17 {d : Nat} {Q : MV → Wd → Prop} {w : Wd} {nm : Nat → Int} {a n : Nat} {v v2 : Int} (hn : n ≤ 8) (hr : NmR (w 17) nm a n) (hv : NameR v v2) (k : Q (mI (fdF nm v2 a n)) w) : Cw (d + 4) 31 [mR 17, mI (n : Nat), mI v] w Q := by
  apply Village_indexOf_17_en (d := d + 3)
  intro n1
  have lp : ∀ m i : Nat, i + m = n → Q (mI (fnF nm v2 a m i)) w → Wp (Cw (d + 3)) cd_Village_indexOf (1, 0, n1) Q 2 [mR 17, mI (n : Nat), mI v, mI (i : Nat)] [] w := by
    intro m
    induction m with
    | zero =>
      intro i hi hq
      apply Village_indexOf_17_c2
      exact ⟨fun _ => hq, fun z => by exfalso; omega⟩
    | succ m ih =>
      intro i hi hq
      have hq : Q (mI (if nm (a + i) = v2 then (i : Int) else fnF nm v2 a m (i + 1))) w := hq
      have e := NameR_iff (hr i (by omega)) hv
      apply Village_indexOf_17_c2
      rw [Int.toNat_natCast, ixs (k := i) (by omega)]
      refine ⟨fun z => by exfalso; omega, fun _ => ⟨by omega, fun z => ?_, fun z => ?_⟩⟩
      · rw [if_neg (fun y => z (e.mpr y))] at hq
        exact ih (i + 1) (by omega) hq
      · rw [if_pos (e.mp (Classical.not_not.mp z))] at hq
        exact hq
  refine lp n 0 (by omega) ?_
  unfold fdF at k
  rw [Int.toNat_natCast] at k
  exact k
theorem K_ix21 {d : Nat} {Q : MV → Wd → Prop} {w : Wd} {nm : Nat → Int} {a n : Nat} {v v2 : Int} (hn : n ≤ 6) (hr : NmR (w 21) nm a n) (hv : NameR v v2) (k : Q (mI (fdF nm v2 a n)) w) : Cw (d + 4) 31 [mR 21, mI (n : Nat), mI v] w Q := by
  apply Village_indexOf_21_en (d := d + 3)
  intro n1
  have lp : ∀ m i : Nat, i + m = n → Q (mI (fnF nm v2 a m i)) w → Wp (Cw (d + 3)) cd_Village_indexOf (1, 0, n1) Q 2 [mR 21, mI (n : Nat), mI v, mI (i : Nat)] [] w := by
    intro m
    induction m with
    | zero =>
      intro i hi hq
      apply Village_indexOf_21_c2
      exact ⟨fun _ => hq, fun z => by exfalso; omega⟩
    | succ m ih =>
      intro i hi hq
      have hq : Q (mI (if nm (a + i) = v2 then (i : Int) else fnF nm v2 a m (i + 1))) w := hq
      have e := NameR_iff (hr i (by omega)) hv
      apply Village_indexOf_21_c2
      rw [Int.toNat_natCast, ixs (k := i) (by omega)]
      refine ⟨fun z => by exfalso; omega, fun _ => ⟨by omega, fun z => ?_, fun z => ?_⟩⟩
      · rw [if_neg (fun y => z (e.mpr y))] at hq
        exact ih (i + 1) (by omega) hq
      · rw [if_pos (e.mp (Classical.not_not.mp z))] at hq
        exact hq
  refine lp n 0 (by omega) ?_
  unfold fdF at k
  rw [Int.toNat_natCast] at k
  exact k
theorem K_ix5 {d : Nat} {Q : MV → Wd → Prop} {w : Wd} {nm : Nat → Int} {a n : Nat} {v v2 : Int} (hn : n ≤ 8) (hr : NmR (w 5) nm a n) (hv : NameR v v2) (k : Q (mI (fdF nm v2 a n)) w) : Cw (d + 4) 31 [mR 5, mI (n : Nat), mI v] w Q := by
  apply Village_indexOf_5_en (d := d + 3)
  intro n1
  have lp : ∀ m i : Nat, i + m = n → Q (mI (fnF nm v2 a m i)) w → Wp (Cw (d + 3)) cd_Village_indexOf (1, 0, n1) Q 2 [mR 5, mI (n : Nat), mI v, mI (i : Nat)] [] w := by
    intro m
    induction m with
    | zero =>
      intro i hi hq
      apply Village_indexOf_5_c2
      exact ⟨fun _ => hq, fun z => by exfalso; omega⟩
    | succ m ih =>
      intro i hi hq
      have hq : Q (mI (if nm (a + i) = v2 then (i : Int) else fnF nm v2 a m (i + 1))) w := hq
      have e := NameR_iff (hr i (by omega)) hv
      apply Village_indexOf_5_c2
      rw [Int.toNat_natCast, ixs (k := i) (by omega)]
      refine ⟨fun z => by exfalso; omega, fun _ => ⟨by omega, fun z => ?_, fun z => ?_⟩⟩
      · rw [if_neg (fun y => z (e.mpr y))] at hq
        exact ih (i + 1) (by omega) hq
      · rw [if_pos (e.mp (Classical.not_not.mp z))] at hq
        exact hq
  refine lp n 0 (by omega) ?_
  unfold fdF at k
  rw [Int.toNat_natCast] at k
  exact k
/-- one WHO of the class's draft -/
theorem K_person {d : Nat} {Q : MV → Wd → Prop} {w : Wd} {x : Tx} {p : Nat} {h nm : Nat → Int} {but : Int} (hs : CSt x p w) (hb : -1 ≤ but) (h0 : 0 ≤ h 0 ∧ h 0 ≤ 8) (e0 : w 16 0 = h 0) (hr : NmR (w 17) nm 14 (h 0))
    (kb : ∀ (e : Fl) (v : Int), whF x h nm but p = .inl e → CBd e (ub w 2 8 v) → Q (mI (-1)) (ub w 2 8 v))
    (kg : ∀ g : Int, whF x h nm but p = .inr (g, nxF x p) → Q (mI g) w) : Cw (d + 5) 39 [mR 16, mR 2, mI but] w Q := by
  have pl : ∀ v : Int, (ub w 2 8 v) 2 7 = plF x p := fun v => by
    have : (ub w 2 8 v) 2 7 = w 2 7 := rfl
    rw [this]; exact hs.tok.pl
  have N := ClK_name hs.tok
  apply Village_person_16_2_en (d := d + 2)
  by_cases z : tkF x p = 6
  · refine ⟨fun _ => ?_, fun y => absurd (N.1 z) y⟩
    have o6 := (hs.tok.k6 z).2.2
    obtain ⟨n, hn⟩ : ∃ n : Nat, h 0 = n := ⟨(h 0).toNat, by omega⟩
    rw [o6, e0, hn]
    have bd := fdF_bd nm (f256 (liF x p)) 14 (h 0)
    have wd : whF x h nm but p = if fdF nm (f256 (liF x p)) 14 (h 0) < 0 ∨ fdF nm (f256 (liF x p)) 14 (h 0) = but then .inl (3, plF x p) else .inr (fdF nm (f256 (liF x p)) 14 (h 0), nxF x p) := by unfold whF; rw [if_pos z]
    rw [hn] at bd wd hr
    refine K_ix17 (d := d) (nm := nm) (a := 14) (n := n) (v2 := f256 (liF x p)) (by omega) hr (nameTok z) ⟨_, rfl, fun y => ?_, fun y => ⟨fun y2 => ?_, fun y2 => ?_⟩⟩
    · exact kb (3, plF x p) 3 (by rw [wd, if_pos (Or.inl (by omega))]) ⟨rfl, pl 3⟩
    · exact kg _ (by rw [wd, if_neg (by omega)])
    · exact kb (3, plF x p) 3 (by rw [wd, if_pos (Or.inr (Classical.not_not.mp y2))]) ⟨rfl, pl 3⟩
  · refine ⟨fun y => absurd y (N.2 z), fun _ => ?_⟩
    exact kb (1, plF x p) 1 (by unfold whF; rw [if_neg z]) ⟨rfl, pl 1⟩
theorem whF_tk {x : Tx} {h nm : Nat → Int} {but g : Int} {p q : Nat} (e : whF x h nm but p = .inr (g, q)) : tkF x p = 6 := by
  unfold whF at e
  by_cases z : tkF x p = 6
  · exact z
  · rw [if_neg z] at e; cases e
theorem K_takePerson {d : Nat} {Q : MV → Wd → Prop} {w : Wd} {x : Tx} {p : Nat} {h nm : Nat → Int} {but : Int} (hs : CSt x p w) (hb : -1 ≤ but) (h0 : 0 ≤ h 0 ∧ h 0 ≤ 8) (e0 : w 16 0 = h 0) (hr : NmR (w 17) nm 14 (h 0))
    (kb : ∀ (e : Fl) (v : Int), whF x h nm but p = .inl e → CBd e (ub w 2 8 v) → Q (mI (-1)) (ub w 2 8 v))
    (kg : ∀ (g : Int) (o : Nat → Int), whF x h nm but p = .inr (g, nxF x p) → CSt x (nxF x p) (ubf w 2 o) → Q (mI g) (ubf w 2 o)) : Cw (d + 6) 38 [mR 16, mR 2, mI but] w Q := by
  apply Village_takePerson_16_2_en (d := d + 5)
  refine K_person (d := d) hs hb h0 e0 hr (fun e v he hv => ⟨_, rfl, fun _ => kb e v he hv, fun y => absurd rfl y⟩) (fun g hg => ⟨_, rfl, fun y => ?_, fun _ => ?_⟩)
  · have := whF_r hg; omega
  · have := whF_tk hg
    exact K_adv (d := d + 1) hs (by omega) (fun o ho => kg g o hg ho)
theorem K_sort {d : Nat} {Q : MV → Wd → Prop} {w : Wd} {x : Tx} {p : Nat} {h nm : Nat → Int} (hs : CSt x p w) (h0 : 0 ≤ h 1 ∧ h 1 ≤ 6) (e0 : w 16 5 = h 1) (hr : NmR (w 21) nm 22 (h 1))
    (kb : ∀ (e : Fl) (v : Int), soF x h nm p = .inl e → CBd e (ub w 2 8 v) → Q (mI (-1)) (ub w 2 8 v))
    (kg : ∀ (g : Int) (o : Nat → Int), soF x h nm p = .inr (g, nxF x p) → CSt x (nxF x p) (ubf w 2 o) → Q (mI g) (ubf w 2 o)) : Cw (d + 5) 40 [mR 16, mR 2] w Q := by
  have pl : ∀ v : Int, (ub w 2 8 v) 2 7 = plF x p := fun v => by
    have : (ub w 2 8 v) 2 7 = w 2 7 := rfl
    rw [this]; exact hs.tok.pl
  have N := ClK_name hs.tok
  apply Village_takeSort_16_2_en (d := d + 2)
  by_cases z : tkF x p = 6
  · refine ⟨fun _ => ?_, fun y => absurd (N.1 z) y⟩
    have o6 := (hs.tok.k6 z).2.2
    obtain ⟨n, hn⟩ : ∃ n : Nat, h 1 = n := ⟨(h 1).toNat, by omega⟩
    rw [o6, e0, hn]
    have bd := fdF_bd nm (f256 (liF x p)) 22 (h 1)
    have wd : soF x h nm p = if fdF nm (f256 (liF x p)) 22 (h 1) < 0 then .inl (3, plF x p) else .inr (fdF nm (f256 (liF x p)) 22 (h 1), nxF x p) := by unfold soF; rw [if_pos z]
    rw [hn] at bd wd hr
    refine K_ix21 (d := d) (nm := nm) (a := 22) (n := n) (v2 := f256 (liF x p)) (by omega) hr (nameTok z) ⟨_, rfl, fun y => ?_, fun y => ?_⟩
    · refine K_adv (d := d) hs (by omega) (fun o ho => kg _ o ?_ ho)
      rw [wd, if_neg (by omega)]
    · exact kb (3, plF x p) 3 (by rw [wd, if_pos (by omega)]) ⟨rfl, pl 3⟩
  · refine ⟨fun y => absurd y (N.2 z), fun _ => ?_⟩
    exact kb (1, plF x p) 1 (by unfold soF; rw [if_neg z]) ⟨rfl, pl 1⟩
theorem K_fresh {d : Nat} {Q : MV → Wd → Prop} {w : Wd} {x : Tx} {p : Nat} {h nm : Nat → Int} (hs : CSt x p w) (h0 : 0 ≤ h 0 ∧ h 0 ≤ 8) (h1 : 0 ≤ h 1 ∧ h 1 ≤ 6) (e0 : w 16 0 = h 0) (e1 : w 16 5 = h 1) (hr : NmR (w 17) nm 14 (h 0)) (hr2 : NmR (w 21) nm 22 (h 1))
    (kb : ∀ (e : Fl) (v : Int), frF x h nm p = .inl e → CBd e (ub w 2 8 v) → Q (mI 0) (ub w 2 8 v))
    (kg : tkF x p = 6 → frF x h nm p = .inr (f256 (liF x p), nxF x p) → w 2 6 = f27 (liF x p) → Q (mI 1) w) : Cw (d + 5) 29 [mR 16, mR 2] w Q := by
  have pl : ∀ v : Int, (ub w 2 8 v) 2 7 = plF x p := fun v => by
    have : (ub w 2 8 v) 2 7 = w 2 7 := rfl
    rw [this]; exact hs.tok.pl
  have N := ClK_name hs.tok
  apply Village_isNewName_16_2_en (d := d + 2)
  by_cases z : tkF x p = 6
  · refine ⟨fun _ => ?_, fun y => absurd (N.1 z) y⟩
    have o6 := (hs.tok.k6 z).2.2
    obtain ⟨n, hn⟩ : ∃ n : Nat, h 0 = n := ⟨(h 0).toNat, by omega⟩
    obtain ⟨m, hm⟩ : ∃ m : Nat, h 1 = m := ⟨(h 1).toNat, by omega⟩
    rw [o6, e0, hn]
    have bd := fdF_bd nm (f256 (liF x p)) 14 (h 0)
    have bd2 := fdF_bd nm (f256 (liF x p)) 22 (h 1)
    have wd : frF x h nm p = if 0 ≤ fdF nm (f256 (liF x p)) 14 (h 0) ∨ 0 ≤ fdF nm (f256 (liF x p)) 22 (h 1) then .inl (3, plF x p) else .inr (f256 (liF x p), nxF x p) := by unfold frF; rw [if_pos z]
    rw [hn] at bd hr
    rw [hm] at bd2 hr2
    rw [hn, hm] at wd
    refine K_ix17 (d := d) (nm := nm) (a := 14) (n := n) (v2 := f256 (liF x p)) (by omega) hr (nameTok z) ⟨_, rfl, fun y => ?_, fun y => ?_⟩
    · exact kb (3, plF x p) 3 (by rw [wd, if_pos (Or.inl (by omega))]) ⟨rfl, pl 3⟩
    · rw [e1, hm, o6]
      refine K_ix21 (d := d) (nm := nm) (a := 22) (n := m) (v2 := f256 (liF x p)) (by omega) hr2 (nameTok z) ⟨_, rfl, fun y2 => ?_, fun y2 => ?_⟩
      · exact kg z (by rw [wd, if_neg (by omega)]) o6
      · exact kb (3, plF x p) 3 (by rw [wd, if_pos (Or.inr (by omega))]) ⟨rfl, pl 3⟩
  · refine ⟨fun y => absurd y (N.2 z), fun _ => ?_⟩
    exact kb (1, plF x p) 1 (by unfold frF; rw [if_neg z]) ⟨rfl, pl 1⟩
