/-! places of faults, shapes of drafts; the reference's village (by gen/mkv14.py) -/
def okF {β : Type} (R : Nat) (r : Fl ⊕ β) : Prop := ∀ e : Fl, r = .inl e → e.2 ≤ R
theorem okF_l {β : Type} {R : Nat} {e : Fl} (h : e.2 ≤ R) : okF R (.inl e : Fl ⊕ β) := fun f hf => by
  injection hf with hf
  rw [← hf]; exact h
theorem okF_r {β : Type} {R : Nat} {b : β} : okF R (.inr b : Fl ⊕ β) := fun f hf => by cases hf
theorem okF_b {α β : Type} {R : Nat} {r : Fl ⊕ (α × Nat)} {f : α → Nat → Fl ⊕ β} (h : okF R r) (h2 : ∀ a q, okF R (f a q)) : okF R (bnF r f) := fun e he => by
  match r, h, he with
  | .inl e', h, he =>
    have he : (Sum.inl e' : Fl ⊕ β) = .inl e := he
    injection he with he
    exact h e (by rw [he])
  | .inr a, _, he => exact h2 a.1 a.2 e he
theorem okF_i {β : Type} {R : Nat} {c : Prop} [Decidable c] {a b : Fl ⊕ β} (h : okF R a) (h2 : okF R b) : okF R (if c then a else b) := by
  by_cases z : c
  · rw [if_pos z]; exact h
  · rw [if_neg z]; exact h2
theorem plF_le (x : Tx) (p : Nat) : plF x p ≤ rdb x := by
  unfold plF
  split
  · exact Nat.le_refl _
  · omega
theorem numF_ok (x : Tx) (lo hi : Int) (p : Nat) : okF (rdb x) (numF x lo hi p) := by
  unfold numF
  exact okF_i (okF_i okF_r (okF_l (plF_le x p))) (okF_l (plF_le x p))
theorem optF_ok (x : Tx) (k : Nat) (lo hi v : Int) (p : Nat) : okF (rdb x) (optF x k lo hi v p) := by
  unfold optF
  exact okF_i (numF_ok _ _ _ _) okF_r
theorem whF_ok (x : Tx) (h nm : Nat → Int) (b : Int) (p : Nat) : okF (rdb x) (whF x h nm b p) := by
  unfold whF
  exact okF_i (okF_i (okF_l (plF_le x p)) okF_r) (okF_l (plF_le x p))
theorem soF_ok (x : Tx) (h nm : Nat → Int) (p : Nat) : okF (rdb x) (soF x h nm p) := by
  unfold soF
  exact okF_i (okF_i (okF_l (plF_le x p)) okF_r) (okF_l (plF_le x p))
theorem frF_ok (x : Tx) (h nm : Nat → Int) (p : Nat) : okF (rdb x) (frF x h nm p) := by
  unfold frF
  exact okF_i (okF_i (okF_l (plF_le x p)) okF_r) (okF_l (plF_le x p))
theorem giF_ok (x : Tx) (h nm : Nat → Int) (a : Int) (p : Nat) : okF (rdb x) (giF x h nm a p) := by
  unfold giF
  exact okF_i (okF_i (okF_l (plF_le x p)) okF_r) (okF_l (plF_le x p))
theorem lineF_ok (x : Tx) (ln : Int) (s : DS) (p : Nat) : okF (rdb x) (lineF x ln s p) := by
  unfold lineF
  refine okF_i (okF_b ?_ (fun _ _ => okF_r)) (okF_i (okF_b ?_ (fun _ _ => okF_r)) (okF_i (okF_b ?_ (fun _ _ => okF_r)) (okF_i (okF_b ?_ (fun _ _ => okF_r)) (okF_i (okF_b ?_ (fun _ _ => okF_r)) (okF_i (okF_b ?_ (fun _ _ => okF_r)) (okF_l (plF_le x p)))))))
  · unfold whoL
    exact okF_i (okF_l (plF_le x p)) (okF_b (frF_ok _ _ _ _) (fun _ _ => okF_b (optF_ok _ _ _ _ _ _) (fun _ _ => okF_b (optF_ok _ _ _ _ _ _) (fun _ _ => okF_r))))
  · unfold sortL
    exact okF_i (okF_l (plF_le x p)) (okF_b (frF_ok _ _ _ _) (fun _ _ => okF_b (numF_ok _ _ _ _) (fun _ _ => okF_r)))
  · unfold makesL
    exact okF_b (whF_ok _ _ _ _ _) (fun _ _ => okF_b (okF_i (whF_ok _ _ _ _ _) okF_r) (fun _ _ => okF_b (soF_ok _ _ _ _) (fun _ q => okF_i (okF_l (plF_le x q)) (okF_b (numF_ok _ _ _ _) (fun _ _ => okF_b (numF_ok _ _ _ _) (fun _ _ => okF_r))))))
  · unfold wantsL
    exact okF_i (okF_l (plF_le x p)) (okF_b (whF_ok _ _ _ _ _) (fun _ _ => okF_b (soF_ok _ _ _ _) (fun _ _ => okF_b (numF_ok _ _ _ _) (fun _ _ => okF_b (optF_ok _ _ _ _ _ _) (fun _ _ => okF_r)))))
  · unfold givesL
    exact okF_b (whF_ok _ _ _ _ _) (fun _ _ => okF_b (giF_ok _ _ _ _ _) (fun _ _ => okF_b (numF_ok _ _ _ _) (fun _ _ => okF_b (numF_ok _ _ _ _) (fun _ _ => okF_r))))
  · unfold lawL
    exact okF_i (okF_b (numF_ok _ _ _ _) (fun _ q => okF_i okF_r (okF_l (plF_le x q)))) (okF_l (plF_le x p))
theorem readF_ok (x : Tx) : ∀ (m : Nat) (ln : Int) (s : DS) (p : Nat), okF (rdb x) (readF x m ln s p)
  | 0, _, _, _ => okF_l (Nat.zero_le _)
  | m + 1, ln, s, p => by
    show okF (rdb x) (if tkF x p = 0 then _ else bnF _ _)
    exact okF_i okF_r (okF_b (lineF_ok _ _ _ _) (fun s2 q => okF_i (readF_ok x m _ _ _) (okF_l (plF_le x q))))
/-- what a line makes keeps the shape -/
theorem unitsH_ws {ln a b s t : Int} {h : Nat → Int} {n0 : Nat} (W : WS h) (hn : h 2 = n0) (hln : 0 ≤ ln ∧ ln ≤ 2000) (hlt : ∀ u : Nat, (u : Int) < h 2 → h (29 + 5 * u) < ln) (ha : 0 ≤ a ∧ a < h 0) (hb : b = -1 ∨ (0 ≤ b ∧ b < h 0 ∧ b ≠ a)) (hs : 0 ≤ s ∧ s < h 1) (ht : 0 ≤ t ∧ t ≤ 47) : ∀ k : Nat, n0 + k ≤ 16 → WS (unitsH ln a b s t k h) ∧ MkI ln a b s t (h 0) (h 1) n0 k (unitsH ln a b s t k h)
  | 0, _ => ⟨W, by rw [Nat.add_zero]; exact hn, rfl, rfl, fun u hu => hlt u (by omega), fun u a1 a2 => by exfalso; omega⟩
  | k + 1, hk => by
    obtain ⟨W1, M⟩ := unitsH_ws W hn hln hlt ha hb hs ht k (by omega)
    refine ⟨?_, MkI_next M⟩
    have W2 := WS_unit (n := n0 + k) (ln := ln) (a := a) (b := b) (s := s) (t := t) W1 M.1 (by omega) hln (by rw [M.2.1]; exact ha) (by rw [M.2.1]; exact hb) (by rw [M.2.2.1]; exact hs) ht (fun u hu => by
        by_cases z : u < n0
        · have := M.2.2.2.1 u z; omega
        · have := (M.2.2.2.2 u (by omega) (by omega)).1; omega) (fun u hu he => by
        by_cases z : u < n0
        · have := M.2.2.2.1 u z; omega
        · exact (M.2.2.2.2 u (by omega) (by omega)).2)
    show WS (unitH ln a b s t (unitsH ln a b s t k h))
    unfold unitH
    rw [M.1, Int.toNat_natCast]
    exact W2
theorem lineF_ws {x : Tx} {ln l : Int} {h nm h2 nm2 : Nat → Int} {l2 : Int} {p q : Nat} (W : WS h) (hln : 0 ≤ ln ∧ ln ≤ 2000) (hlt : ∀ u : Nat, (u : Int) < h 2 → h (29 + 5 * u) < ln) (e : lineF x ln (h, nm, l) p = .inr ((h2, nm2, l2), q)) : WS h2 ∧ ∀ u : Nat, (u : Int) < h2 2 → h2 (29 + 5 * u) ≤ ln := by
  have pe := W.pe
  have so := W.so
  have un := W.un
  have wa := W.wa
  have tl := tkF_le (x := x) (p := p)
  have nx : 3 ≤ tkF x p → p < nxF x p ∧ nxF x p ≤ x.L := tkF_nx
  unfold lineF at e
  by_cases c1 : tkF x p = 10
  · rw [if_pos c1] at e
    obtain ⟨r, q1, h1, e2⟩ := bnF_inv e
    have eh := congrArg (fun z : DS => z.1) (inr_pair e2).1
    have eh : whoH h r.1 r.2 = h2 := eh
    unfold whoL at h1
    by_cases c : h 0 = 8
    · rw [if_pos c] at h1; cases h1
    · rw [if_neg c] at h1
      obtain ⟨a1, q2, k1, h1⟩ := bnF_inv h1
      obtain ⟨a2, q3, k2, h1⟩ := bnF_inv h1
      obtain ⟨a3, q4, k3, h1⟩ := bnF_inv h1
      have e1 := inr_pair h1
      have f1 := frF_r k1
      have o1 := optF_r (by omega) (by omega) k2
      have o2 := optF_r (by omega) (by omega) k3
      rw [← eh, ← e1.1]
      obtain ⟨n, hn⟩ : ∃ n : Nat, h 0 = n := ⟨(h 0).toNat, by omega⟩
      refine ⟨?_, LN_keep (by unfold whoH; simp (disch := omega) only [up1_ne, up1_self]) (fun u hu => by unfold whoH; simp (disch := omega) only [up1_ne, up1_self]) hlt⟩
      unfold whoH
      rw [hn, Int.toNat_natCast]
      exact WS_who W hn (by omega) ⟨o1.1, o1.2.1⟩ ⟨o2.1, o2.2.1⟩
  rw [if_neg c1] at e
  by_cases c2 : tkF x p = 13
  · rw [if_pos c2] at e
    obtain ⟨r, q1, h1, e2⟩ := bnF_inv e
    have eh := congrArg (fun z : DS => z.1) (inr_pair e2).1
    have eh : sortH h r = h2 := eh
    unfold sortL at h1
    by_cases c : h 1 = 6
    · rw [if_pos c] at h1; cases h1
    · rw [if_neg c] at h1
      obtain ⟨a1, q2, k1, h1⟩ := bnF_inv h1
      obtain ⟨a2, q3, k2, h1⟩ := bnF_inv h1
      have e1 := inr_pair h1
      have o1 := numF_r k2
      rw [← eh, ← e1.1]
      obtain ⟨n, hn⟩ : ∃ n : Nat, h 1 = n := ⟨(h 1).toNat, by omega⟩
      refine ⟨?_, LN_keep (by unfold sortH; simp (disch := omega) only [up1_ne, up1_self]) (fun u hu => by unfold sortH; simp (disch := omega) only [up1_ne, up1_self]) hlt⟩
      unfold sortH
      rw [hn, Int.toNat_natCast]
      exact WS_sort W hn (by omega) ⟨o1.2.1, o1.2.2.1⟩
  rw [if_neg c2] at e
  by_cases c3 : tkF x p = 14
  · rw [if_pos c3] at e
    obtain ⟨r, q1, h1, e2⟩ := bnF_inv e
    have eh := congrArg (fun z : DS => z.1) (inr_pair e2).1
    have eh : unitsH ln r.1 r.2.1 r.2.2.1 r.2.2.2.2 r.2.2.2.1.toNat h = h2 := eh
    unfold makesL at h1
    obtain ⟨a1, q2, k1, h1⟩ := bnF_inv h1
    obtain ⟨a2, q3, k2, h1⟩ := bnF_inv h1
    obtain ⟨a3, q4, k3, h1⟩ := bnF_inv h1
    have r1 := whF_r k1
    have r3 := soF_r k3
    have r2 : a2 = -1 ∨ (0 ≤ a2 ∧ a2 < h 0 ∧ a2 ≠ a1) := by
      by_cases c : tkF x q2 = 15
      · rw [if_pos c] at k2
        have := whF_r k2
        exact Or.inr ⟨this.1, this.2.1, this.2.2.1⟩
      · rw [if_neg c] at k2
        exact Or.inl (inr_pair k2).1.symm
    by_cases c : tkF x q4 = 4 ∧ (1 ≤ vnF x q4 ∧ vnF x q4 ≤ 9) ∧ 16 < h 2 + vnF x q4
    · rw [if_pos c] at h1; cases h1
    · rw [if_neg c] at h1
      obtain ⟨a4, q5, k4, h1⟩ := bnF_inv h1
      obtain ⟨a5, q6, k5, h1⟩ := bnF_inv h1
      have e1 := inr_pair h1
      have o1 := numF_r k4
      have o2 := numF_r k5
      rw [← eh, ← e1.1]
      obtain ⟨n, hn⟩ : ∃ n : Nat, h 2 = n := ⟨(h 2).toNat, by omega⟩
      have c16 : ¬ 16 < h 2 + vnF x q4 := fun z => c ⟨o1.1, ⟨by omega, by omega⟩, z⟩
      have U := unitsH_ws (ln := ln) (a := a1) (b := a2) (s := a3) (t := a5) W hn hln hlt ⟨r1.1, r1.2.1⟩ r2 ⟨r3.1, r3.2.1⟩ ⟨o2.2.1, o2.2.2.1⟩ a4.toNat (by omega)
      refine ⟨U.1, fun u hu => ?_⟩
      have M := U.2
      have hu : (u : Int) < (unitsH ln a1 a2 a3 a5 a4.toNat h) 2 := hu
      show (unitsH ln a1 a2 a3 a5 a4.toNat h) (29 + 5 * u) ≤ ln
      have := M.1
      by_cases z : u < n
      · have := M.2.2.2.1 u z; omega
      · have := (M.2.2.2.2 u (by omega) (by omega)).1; omega
  rw [if_neg c3] at e
  by_cases c4 : tkF x p = 16
  · rw [if_pos c4] at e
    obtain ⟨r, q1, h1, e2⟩ := bnF_inv e
    have eh := congrArg (fun z : DS => z.1) (inr_pair e2).1
    have eh : wantH h r.1 r.2.1 r.2.2.1 r.2.2.2 = h2 := eh
    unfold wantsL at h1
    by_cases c : h 3 = 8
    · rw [if_pos c] at h1; cases h1
    · rw [if_neg c] at h1
      obtain ⟨a1, q2, k1, h1⟩ := bnF_inv h1
      obtain ⟨a2, q3, k2, h1⟩ := bnF_inv h1
      obtain ⟨a3, q4, k3, h1⟩ := bnF_inv h1
      obtain ⟨a4, q5, k4, h1⟩ := bnF_inv h1
      have e1 := inr_pair h1
      have r1 := whF_r k1
      have r2 := soF_r k2
      have o1 := numF_r k3
      have o0 := numF_nx (by omega) k3
      have o2 := optF_r (by omega) (by omega) k4
      rw [← eh, ← e1.1]
      obtain ⟨n, hn⟩ : ∃ n : Nat, h 3 = n := ⟨(h 3).toNat, by omega⟩
      refine ⟨?_, LN_keep (by unfold wantH; simp (disch := omega) only [up1_ne, up1_self]) (fun u hu => by unfold wantH; simp (disch := omega) only [up1_ne, up1_self]) hlt⟩
      unfold wantH
      rw [hn, Int.toNat_natCast]
      exact WS_want W hn (by omega) ⟨r1.1, r1.2.1⟩ ⟨r2.1, r2.2.1⟩ ⟨o1.2.1, o1.2.2.1⟩ ⟨o2.1, o2.2.1⟩
  rw [if_neg c4] at e
  by_cases c5 : tkF x p = 18
  · rw [if_pos c5] at e
    obtain ⟨r, q1, h1, e2⟩ := bnF_inv e
    have eh := congrArg (fun z : DS => z.1) (inr_pair e2).1
    have eh : giveH h r.1 r.2.1 r.2.2.1 r.2.2.2 = h2 := eh
    unfold givesL at h1
    obtain ⟨a1, q2, k1, h1⟩ := bnF_inv h1
    obtain ⟨a2, q3, k2, h1⟩ := bnF_inv h1
    obtain ⟨a3, q4, k3, h1⟩ := bnF_inv h1
    obtain ⟨a4, q5, k4, h1⟩ := bnF_inv h1
    have e1 := inr_pair h1
    have r1 := whF_r k1
    have r2 := giF_r k2
    have o1 := numF_r k3
    have o2 := numF_r k4
    rw [← eh, ← e1.1]
    obtain ⟨i, hi⟩ : ∃ i : Nat, a1 = i := ⟨a1.toNat, by omega⟩
    obtain ⟨j, hj⟩ : ∃ j : Nat, a2 = j := ⟨a2.toNat, by omega⟩
    refine ⟨?_, LN_keep (by unfold giveH; simp (disch := omega) only [up1_ne, up1_self]) (fun u hu => by unfold giveH; simp (disch := omega) only [up1_ne, up1_self]) hlt⟩
    unfold giveH
    rw [hi, hj, Int.toNat_natCast, Int.toNat_natCast]
    have r1' : 0 ≤ a1 ∧ a1 < h 0 := ⟨(whF_r k1).1, (whF_r k1).2.1⟩
    have r2' : 0 ≤ a2 ∧ a2 < h 0 ∧ a2 ≠ a1 := ⟨(giF_r k2).1, (giF_r k2).2.1, (giF_r k2).2.2.1⟩
    exact WS_give W (by omega) (by omega) (by omega) ⟨o1.2.1, o1.2.2.1⟩ ⟨o2.2.1, o2.2.2.1⟩
  rw [if_neg c5] at e
  by_cases c6 : tkF x p = 19
  · rw [if_pos c6] at e
    obtain ⟨r, q1, h1, e2⟩ := bnF_inv e
    have eh := congrArg (fun z : DS => z.1) (inr_pair e2).1
    have eh : lawH h r.1 r.2 = h2 := eh
    unfold lawL at h1
    by_cases c : l = 0
    · rw [if_pos c] at h1
      obtain ⟨a1, q2, k1, h1⟩ := bnF_inv h1
      have o1 := numF_r k1
      by_cases c7 : 20 ≤ tkF x q2 ∧ tkF x q2 ≤ 23
      · rw [if_pos c7] at h1
        have e1 := inr_pair h1
        rw [← eh, ← e1.1]
        refine ⟨?_, LN_keep (by unfold lawH; simp (disch := omega) only [up1_ne, up1_self]) (fun u hu => by unfold lawH; simp (disch := omega) only [up1_ne, up1_self]) hlt⟩
        exact WS_law W ⟨o1.2.1, o1.2.2.1⟩ (by omega)
      · rw [if_neg c7] at h1; cases h1
    · rw [if_neg c] at h1; cases h1
  rw [if_neg c6] at e
  cases e
theorem WS_zero {hI : Nat → Int} (z4 : hI 4 = 3) (z5 : hI 5 = 1) (z : ∀ i, i < 333 → i ≠ 4 → i ≠ 5 → hI i = 0) : WS hI := by
  have y0 := z 0 (by omega) (by omega) (by omega)
  have y1 := z 1 (by omega) (by omega) (by omega)
  have y2 := z 2 (by omega) (by omega) (by omega)
  have y3 := z 3 (by omega) (by omega) (by omega)
  exact WS.mk (by omega) (by omega) (by omega) (by omega) (by omega) (by omega) (fun p hp => by have := z (7 + p) (by omega) (by omega) (by omega); omega) (fun p hp => by have := z (15 + p) (by omega) (by omega) (by omega); omega) (fun k hk => by omega) (fun k hk => by omega) (fun k hk => by omega) (fun k hk => by omega) (fun k hk => by omega) (fun u v a b => by omega) (fun u v a b c => by omega) (fun k hk => by omega) (fun k hk => by omega) (fun k hk => by omega) (fun k hk => by omega) (fun k hk => by have := z (269 + k) (by omega) (by omega) (by omega); omega) (fun a b ha hb h => by have := z (269 + (8 * a + b)) (by omega) (by omega) (by omega); omega) (fun k hk => by have := z (141 + k) (by omega) (by omega) (by omega); omega) (fun k hk => by have := z (205 + k) (by omega) (by omega) (by omega); omega)
/-- what village leaves of the reference's own fields -/
def GV (g0 g : Nat → Int) : Prop := ∀ i, (i = 1 ∨ (6 ≤ i ∧ i ≤ 10) ∨ 20 < i) → g i = g0 i
theorem GV.f {g0 g g2 : Nat → Int} (h : GV g0 g) (f : GF g g2) : GV g0 g2 := fun i hi => by rw [f i (by omega) (by omega)]; exact h i hi
def hIv (h : Nat → Int) : Nat → Int := up1 (up1 (fun i => if i < 333 then 0 else h i) 4 3) 5 1
theorem N_village {d : Nat} {Q : MV → Wd → Prop} {w : Wd} {x : Tx} {g h nm : Nat → Int} (hx : TxO x) (hM : x.M = 1000) (hL : g 2 = x.L) (tape : ∀ i, i < 1040 → iand (w 145 i) 255 = x.t i) (words : ∀ j, j < 17 → w 150 j = nthA 0 resK j)
    (kb : ∀ (e : Fl) (g2 h2 nm2 : Nat → Int), readF x 1041 0 (hIv h, nm, 0) 0 = .inl e → GV g g2 → g2 2 = 0 → (∀ i, i < 14 → nm2 i = nm i) → MBd e g2 → Q (mI (w32 (-1 - e.2))) (M3 w g2 h2 nm2))
    (kg : ∀ (h2 nm2 : Nat → Int) (l2 ln : Int) (g2 : Nat → Int), readF x 1041 0 (hIv h, nm, 0) 0 = .inr ((h2, nm2, l2), ln) → GV g g2 → g2 2 = 0 → g2 15 = 0 → ∀ nm3 s2 : Nat → Int, (∀ i, i < 14 → nm3 i = nm2 (14 + i)) → (∀ i, i < 333 → s2 i = h2 i) → (∀ i, 333 ≤ i → i < 645 → s2 i = 0) → Q (mI ln) (M3 (ubf w 146 s2) g2 h2 nm3)) : Cw (d + 9) 173 [mR 144] (M3 w g h nm) Q := by
  have hLo := hx.L
  apply M_village_144_en (d := d + 7)
  intro n1
  rw [M3_g, M3_ug, M3_ug, M3_ug, M3_ug, M3_ug, M3_ug, hL]
  have lN : ∀ (m i : Nat) (g2 h2 nm2 nm3 s2 : Nat → Int) (l2 : Int) (ln : Nat), i + m = 14 → readF x 1041 0 (hIv h, nm, 0) 0 = .inr ((h2, nm2, l2), (ln : Int)) → GV g g2 → g2 2 = 0 → g2 15 = 0 → g2 20 = (ln : Int) → (∀ j, j < 333 → s2 j = h2 j) → (∀ j, 333 ≤ j → j < 645 → s2 j = 0) → (∀ j, j < i → nm3 j = nm2 (14 + j)) → (∀ j, 14 ≤ j → nm3 j = nm2 j) → Wp (Cw (d + 8)) cd_M_village (1, 0, n1) Q 83 [mR 144, mI (i : Nat)] [] (M3 (ubf w 146 s2) g2 h2 nm3) := by
    intro m
    induction m with
    | zero =>
      intro i g2 h2 nm2 nm3 s2 l2 ln hi hr f e2 e15 e20 s1 s3 c1 c2
      apply M_village_144_c83
      refine ⟨fun _ => ?_, fun z => by exfalso; omega⟩
      rw [M3_g, e20]
      exact kg h2 nm2 l2 ln g2 hr f e2 e15 nm3 s2 (fun j hj => c1 j (by omega)) s1 s3
    | succ m ih =>
      intro i g2 h2 nm2 nm3 s2 l2 ln hi hr f e2 e15 e20 s1 s3 c1 c2
      apply M_village_144_c83
      rw [ixs (k := i) (by omega), show w32 (14 + (i : Int)) = ((14 + i : Nat) : Int) by rw [w32_id (by unfold in32; omega)]; omega, Int.toNat_natCast, Int.toNat_natCast, M3_un, M3_n]
      refine ⟨fun z => by exfalso; omega, fun _ => ⟨by omega, by omega, ?_⟩⟩
      refine ih (i + 1) g2 h2 nm2 _ s2 l2 ln (by omega) hr f e2 e15 e20 s1 s3 (fun j hj => ?_) (fun j hj => ?_)
      · by_cases e : j = i
        · rw [e, up1_self]; exact c2 _ (by omega)
        · rw [up1_ne _ e]; exact c1 j (by omega)
      · rw [up1_ne _ (by omega)]; exact c2 j hj
  have M3_s : ∀ (s2 g2 h2 nm2 : Nat → Int) (i : Nat) (v : Int), ub (M3 (ubf w 146 s2) g2 h2 nm2) 146 i v = M3 (ubf w 146 (up1 s2 i v)) g2 h2 nm2 := fun s2 g2 h2 nm2 i v => by
    unfold M3
    funext c j
    simp only [ub_ap, ubf_ap]
    by_cases e : c = 146
    · subst e; rfl
    · rw [if_neg e]
      by_cases e1 : c = 144
      · subst e1; rfl
      · by_cases e2 : c = 149
        · subst e2; rfl
        · by_cases e3 : c = 147
          · subst e3; rfl
          · rw [if_neg e1, if_neg e2, if_neg e3, if_neg e, if_neg e1, if_neg e2, if_neg e3, if_neg e]
  have lS : ∀ (m i : Nat) (g2 h2 nm2 s2 : Nat → Int) (l2 : Int) (ln : Nat), i + m = 645 → readF x 1041 0 (hIv h, nm, 0) 0 = .inr ((h2, nm2, l2), (ln : Int)) → GV g g2 → g2 2 = 0 → g2 15 = 0 → g2 20 = (ln : Int) → (∀ j, j < 333 → j < i → s2 j = h2 j) → (∀ j, 333 ≤ j → j < i → s2 j = 0) → Wp (Cw (d + 8)) cd_M_village (1, 0, n1) Q 63 [mR 144, mI (i : Nat)] [] (M3 (ubf w 146 s2) g2 h2 nm2) := by
    intro m
    induction m with
    | zero =>
      intro i g2 h2 nm2 s2 l2 ln hi hr f e2 e15 e20 s1 s3
      apply M_village_144_c63
      refine ⟨fun _ => ?_, fun z => by exfalso; omega⟩
      exact lN 14 0 g2 h2 nm2 nm2 s2 l2 ln (by omega) hr f e2 e15 e20 (fun j hj => s1 j hj (by omega)) (fun j a b => s3 j a (by omega)) (fun j hj => absurd hj (Nat.not_lt_zero _)) (fun j _ => rfl)
    | succ m ih =>
      intro i g2 h2 nm2 s2 l2 ln hi hr f e2 e15 e20 s1 s3
      apply M_village_144_c63
      rw [ixs (k := i) (by omega), Int.toNat_natCast, M3_h, M3_s, M3_s]
      refine ⟨fun z => by exfalso; omega, fun _ => ⟨fun z => ⟨by omega, ?_⟩, fun z => ⟨by omega, by omega, ?_⟩⟩⟩
      · refine ih (i + 1) g2 h2 nm2 _ l2 ln (by omega) hr f e2 e15 e20 (fun j a b => ?_) (fun j a b => ?_)
        · rw [up1_ne _ (by omega)]; exact s1 j a (by omega)
        · by_cases e : j = i
          · rw [e, up1_self]
          · rw [up1_ne _ e]; exact s3 j a (by omega)
      · refine ih (i + 1) g2 h2 nm2 _ l2 ln (by omega) hr f e2 e15 e20 (fun j a b => ?_) (fun j a b => ?_)
        · by_cases e : j = i
          · rw [e, up1_self]
          · rw [up1_ne _ e]; exact s1 j a (by omega)
        · rw [up1_ne _ (by omega)]; exact s3 j a (by omega)
  have lR : ∀ (m p ln : Nat) (g2 h2 nm2 : Nat → Int), 1041 ≤ p + m → p ≤ rdb x → ln ≤ p → readF x 1041 0 (hIv h, nm, 0) 0 = readF x m (ln : Nat) (h2, nm2, g2 19) p → MSt x p w g2 → GV g g2 → g2 2 = 0 → g2 20 = (ln : Nat) → WS h2 → (∀ i, i < 14 → nm2 i = nm i) → (∀ u : Nat, (u : Int) < h2 2 → h2 (29 + 5 * u) < (ln : Int)) → Wp (Cw (d + 8)) cd_M_village (1, 0, n1) Q 39 [mR 144, none] [] (M3 w g2 h2 nm2) := by
    intro m
    induction m with
    | zero =>
      intro p ln g2 h2 nm2 hm hp
      have e : rdb x ≤ x.L := Nat.min_le_left _ _
      exfalso; omega
    | succ m ih =>
      intro p ln g2 h2 nm2 hm hp hlp hr hs f e2 e20 W hnm hlt
      have er : rdb x ≤ x.L := Nat.min_le_left _ _
      have k11 := MdK_11 hs.tok
      apply M_village_144_c39
      rw [M3_g]
      by_cases t0 : tkF x p = 0
      · refine ⟨fun _ => ?_, fun y => absurd (k11.1.mpr t0) y⟩
        have := lS 645 0 g2 h2 nm2 (w 146) (g2 19) ln (by omega) (by rw [hr]; unfold readF; rw [if_pos t0]) f e2 hs.f15 e20 (fun j a b => absurd b (Nat.not_lt_zero _)) (fun j a b => absurd b (Nat.not_lt_zero _))
        rw [ubf_sf0] at this
        exact this
      have U : readF x 1041 0 (hIv h, nm, 0) 0 = bnF (lineF x (ln : Nat) (h2, nm2, g2 19) p) fun s2 p2 => if tkF x p2 = 3 then readF x m ((ln : Nat) + 1) s2 (nxF x p2) else .inl (1, plF x p2) := by
        rw [hr]
        show (if tkF x p = 0 then _ else _) = _
        rw [if_neg t0]
      refine ⟨fun y => absurd (k11.1.mp y) t0, fun _ => ?_⟩
      refine N_line (d := d) hs W (fun e g3 h3 nm3 he f3 hn hb => ⟨_, rfl, fun _ => ?_, fun y => absurd rfl y⟩) (fun h3 nm3 l3 q he hn g3 hs3 f3 e19 e203 => ⟨_, rfl, fun y => absurd y (by decide), fun _ => ?_⟩)
      · rw [M3_g, hb.2]
        rw [e20] at he
        exact kb e g3 h3 nm3 (by rw [U]; exact bnF_l he) (f.f f3) (by rw [f3 2 (by omega) (by omega)]; exact e2) (fun i hi => by rw [hn i hi]; exact hnm i hi) hb
      · rw [e20] at he
        have ws := lineF_ws W (by omega) hlt he
        have pq := lineF_nx he
        refine N_sign (d := d + 5) hs3 (fun y g4 f4 hb => ⟨_, rfl, fun y2 => absurd rfl y2, fun _ => ?_⟩) (fun y g4 hs4 f4 e194 e204 => ⟨_, rfl, fun _ => ?_, fun y2 => absurd (by decide) y2⟩)
        · rw [M3_g, hb.2]
          exact kb (1, plF x q) g4 h3 nm3 (by rw [U, bnF_r he, if_neg y]) ((f.f f3).f f4) (by rw [f4 2 (by omega) (by omega), f3 2 (by omega) (by omega)]; exact e2) (fun i hi => by rw [hn i hi]; exact hnm i hi) hb
        · have n3 := tkF_3 y
          have nx := tkF_nx (x := x) (p := q) (by omega)
          have e205 : g4 20 = (ln : Nat) := by rw [e204, e203, e20]
          rw [M3_g, e205, ixs (k := ln) (by omega), M3_ug]
          refine ih (nxF x q) (ln + 1) _ h3 nm3 (by omega) n3 (by omega) ?_ (hs4.g18 20 _ (by omega)) (fun i hi => ?_) ?_ (up1_self _ _ _) ws.1 (fun i hi => by rw [hn i hi]; exact hnm i hi) (fun u hu => ?_)
          · rw [U, bnF_r he, if_pos y, up1_ne _ (by decide), e194, e19]; rfl
          · rw [up1_ne _ (by omega)]; exact ((f.f f3).f f4) i hi
          · rw [up1_ne _ (by decide), f4 2 (by omega) (by omega), f3 2 (by omega) (by omega)]; exact e2
          · have := ws.2 u hu; omega
  have lC : ∀ (m i : Nat) (g2 hh : Nat → Int), i + m = 333 → GV g g2 → g2 2 = 0 → g2 3 = x.L → g2 4 = 0 → g2 5 = 1000 → g2 15 = 0 → (∀ j, j < i → hh j = 0) → (∀ j, 333 ≤ j → hh j = h j) → Wp (Cw (d + 8)) cd_M_village (1, 0, n1) Q 11 [mR 144, mI (i : Nat)] [] (M3 w g2 hh nm) := by
    intro m
    induction m with
    | zero =>
      intro i g2 hh hi f e2 e3 e4 e5 e15 h0 h1
      apply M_village_144_c11
      refine ⟨fun _ => ?_, fun z => by exfalso; omega⟩
      rw [M3_uh, M3_uh, M3_ug, M3_ug]
      have eh : up1 (up1 hh 4 3) 5 1 = hIv h := by
        funext j
        unfold hIv
        simp only [up1_ap]
        by_cases c1 : j = 5
        · rw [if_pos c1, if_pos c1]
        · rw [if_neg c1, if_neg c1]
          by_cases c2 : j = 4
          · rw [if_pos c2, if_pos c2]
          · rw [if_neg c2, if_neg c2]
            by_cases c3 : j < 333
            · rw [if_pos c3]; exact h0 j (by omega)
            · rw [if_neg c3]; exact h1 j (by omega)
      rw [eh]
      have ge : ∀ j, j ≠ 19 → j ≠ 20 → (up1 (up1 g2 19 0) 20 0) j = g2 j := fun j a b => by rw [up1_ne _ b, up1_ne _ a]
      refine S_next (d := d + 6) (x := x) hx tape (p := 0) (Nat.zero_le _) ?_ ?_ ?_ (fun g3 hg fr => ?_)
      · rw [M3_g, ge 3 (by decide) (by decide)]; exact e3
      · rw [M3_g, ge 5 (by decide) (by decide), e5, hM]; rfl
      · rw [M3_g, ge 4 (by decide) (by decide)]; exact e4
      · rw [M3_g] at fr
        rw [M3_fg]
        have fe : ∀ j, j ≠ 4 → j ≠ 11 → j ≠ 12 → j ≠ 13 → j ≠ 14 → j ≠ 17 → j ≠ 19 → j ≠ 20 → g3 j = g2 j := fun j a b c d' e f' u v => by rw [fr j a b c d' e f', ge j u v]
        have z4 : hIv h 4 = 3 := rfl
        have z5 : hIv h 5 = 1 := rfl
        have zz : ∀ i, i < 333 → i ≠ 4 → i ≠ 5 → hIv h i = 0 := fun i a b c => by
          unfold hIv
          rw [up1_ne _ c, up1_ne _ b]
          exact if_pos a
        refine lR 1041 0 0 g3 (hIv h) nm (by omega) (Nat.zero_le _) (Nat.le_refl _) ?_ (MSt.mk hx (MdT_K hg) ?_ ?_ ?_ tape words) (fun i hi => ?_) ?_ ?_ (WS_zero z4 z5 zz) (fun i hi => rfl) (fun u hu => ?_)
        · rw [fr 19 (by decide) (by decide) (by decide) (by decide) (by decide) (by decide), up1_ne _ (by decide), up1_self]; rfl
        · rw [fe 3 (by decide) (by decide) (by decide) (by decide) (by decide) (by decide) (by decide) (by decide)]; exact e3
        · rw [fe 5 (by decide) (by decide) (by decide) (by decide) (by decide) (by decide) (by decide) (by decide), e5, hM]; rfl
        · rw [fe 15 (by decide) (by decide) (by decide) (by decide) (by decide) (by decide) (by decide) (by decide)]; exact e15
        · rw [fe i (by omega) (by omega) (by omega) (by omega) (by omega) (by omega) (by omega) (by omega)]; exact f i hi
        · rw [fe 2 (by decide) (by decide) (by decide) (by decide) (by decide) (by decide) (by decide) (by decide)]; exact e2
        · rw [fr 20 (by decide) (by decide) (by decide) (by decide) (by decide) (by decide), up1_self]; rfl
        · rw [zz 2 (by omega) (by omega) (by omega)] at hu; omega
    | succ m ih =>
      intro i g2 hh hi f e2 e3 e4 e5 e15 h0 h1
      apply M_village_144_c11
      rw [ixs (k := i) (by omega), Int.toNat_natCast]
      simp only [M3_uh]
      refine ⟨fun z => by exfalso; omega, fun _ => ⟨by omega, ?_⟩⟩
      refine ih (i + 1) g2 _ (by omega) f e2 e3 e4 e5 e15 (fun j hj => ?_) (fun j hj => ?_)
      · by_cases e : j = i
        · rw [e, up1_self]
        · rw [up1_ne _ e]; exact h0 j (by omega)
      · rw [up1_ne _ (by omega)]; exact h1 j hj
  refine lC 333 0 _ h (by omega) (fun i hi => ?_) rfl rfl rfl rfl rfl (fun j hj => absurd hj (Nat.not_lt_zero _)) (fun j _ => rfl)
  rw [up1_ne _ (by omega), up1_ne _ (by omega), up1_ne _ (by omega), up1_ne _ (by omega), up1_ne _ (by omega), up1_ne _ (by omega)]
