/-! reading, as functions of the text: a fault (kind, place) or what was read and the next place -/
abbrev Fl : Type := Int × Nat
def bnF {α β : Type} (r : Fl ⊕ (α × Nat)) (f : α → Nat → Fl ⊕ β) : Fl ⊕ β := match r with
  | .inl e => .inl e
  | .inr a => f a.1 a.2
theorem bnF_l {α β : Type} {r : Fl ⊕ (α × Nat)} {f : α → Nat → Fl ⊕ β} {e : Fl} (h : r = .inl e) : bnF r f = .inl e := by rw [h]; rfl
theorem bnF_r {α β : Type} {r : Fl ⊕ (α × Nat)} {f : α → Nat → Fl ⊕ β} {a : α} {q : Nat} (h : r = .inr (a, q)) : bnF r f = f a q := by rw [h]; rfl
noncomputable def numF (x : Tx) (lo hi : Int) (p : Nat) : Fl ⊕ (Int × Nat) := if tkF x p = 4 then (if lo ≤ vnF x p ∧ vnF x p ≤ hi then .inr (vnF x p, nxF x p) else .inl (2, plF x p)) else .inl (1, plF x p)
noncomputable def optF (x : Tx) (kw : Nat) (lo hi v : Int) (p : Nat) : Fl ⊕ (Int × Nat) := if tkF x p = 10 + kw then numF x lo hi (nxF x p) else .inr (v, p)
/-- the first place of a code among some -/
def fnF (nm : Nat → Int) (v : Int) (a : Nat) : Nat → Nat → Int
  | 0, _ => -1
  | m + 1, k => if nm (a + k) = v then k else fnF nm v a m (k + 1)
def fdF (nm : Nat → Int) (v : Int) (a : Nat) (n : Int) : Int := fnF nm v a n.toNat 0
noncomputable def whF (x : Tx) (h nm : Nat → Int) (but : Int) (p : Nat) : Fl ⊕ (Int × Nat) := if tkF x p = 6 then (if fdF nm (f256 (liF x p)) 14 (h 0) < 0 ∨ fdF nm (f256 (liF x p)) 14 (h 0) = but then .inl (3, plF x p) else .inr (fdF nm (f256 (liF x p)) 14 (h 0), nxF x p)) else .inl (1, plF x p)
noncomputable def soF (x : Tx) (h nm : Nat → Int) (p : Nat) : Fl ⊕ (Int × Nat) := if tkF x p = 6 then (if fdF nm (f256 (liF x p)) 22 (h 1) < 0 then .inl (3, plF x p) else .inr (fdF nm (f256 (liF x p)) 22 (h 1), nxF x p)) else .inl (1, plF x p)
noncomputable def frF (x : Tx) (h nm : Nat → Int) (p : Nat) : Fl ⊕ (Int × Nat) := if tkF x p = 6 then (if 0 ≤ fdF nm (f256 (liF x p)) 14 (h 0) ∨ 0 ≤ fdF nm (f256 (liF x p)) 22 (h 1) then .inl (3, plF x p) else .inr (f256 (liF x p), nxF x p)) else .inl (1, plF x p)
noncomputable def giF (x : Tx) (h nm : Nat → Int) (a : Int) (p : Nat) : Fl ⊕ (Int × Nat) := if tkF x p = 6 then (if fdF nm (f256 (liF x p)) 14 (h 0) < 0 ∨ fdF nm (f256 (liF x p)) 14 (h 0) = a ∨ h (269 + (8 * a.toNat + (fdF nm (f256 (liF x p)) 14 (h 0)).toNat)) = 1 then .inl (3, plF x p) else .inr (fdF nm (f256 (liF x p)) 14 (h 0), nxF x p)) else .inl (1, plF x p)
noncomputable def whoL (x : Tx) (h nm : Nat → Int) (p : Nat) : Fl ⊕ ((Int × Int) × Nat) :=
  if h 0 = 8 then .inl (4, plF x p) else bnF (frF x h nm (nxF x p)) fun _ p2 => bnF (optF x 1 0 9 0 p2) fun t p3 => bnF (optF x 2 0 99 0 p3) fun a p4 => .inr ((t, a), p4)
noncomputable def sortL (x : Tx) (h nm : Nat → Int) (p : Nat) : Fl ⊕ (Int × Nat) :=
  if h 1 = 6 then .inl (4, plF x p) else bnF (frF x h nm (nxF x p)) fun _ p2 => bnF (numF x 1 48 p2) fun v p3 => .inr (v, p3)
noncomputable def makesL (x : Tx) (h nm : Nat → Int) (p : Nat) : Fl ⊕ ((Int × Int × Int × Int × Int) × Nat) :=
  bnF (whF x h nm (-1) (nxF x p)) fun a p2 => bnF (if tkF x p2 = 15 then whF x h nm a (nxF x p2) else .inr (-1, p2)) fun b p3 => bnF (soF x h nm p3) fun s p4 =>
    if tkF x p4 = 4 ∧ (1 ≤ vnF x p4 ∧ vnF x p4 ≤ 9) ∧ 16 < h 2 + vnF x p4 then .inl (4, plF x p4) else bnF (numF x 1 9 p4) fun n p5 => bnF (numF x 0 47 p5) fun t p6 => .inr ((a, b, s, n, t), p6)
noncomputable def wantsL (x : Tx) (h nm : Nat → Int) (p : Nat) : Fl ⊕ ((Int × Int × Int × Int) × Nat) :=
  if h 3 = 8 then .inl (4, plF x p) else bnF (whF x h nm (-1) (nxF x p)) fun a p2 => bnF (soF x h nm p2) fun s p3 => bnF (numF x 0 999 p3) fun v p4 => bnF (optF x 7 0 47 47 p4) fun b p5 => .inr ((a, s, v, b), p5)
noncomputable def givesL (x : Tx) (h nm : Nat → Int) (p : Nat) : Fl ⊕ ((Int × Int × Int × Int) × Nat) :=
  bnF (whF x h nm (-1) (nxF x p)) fun a p2 => bnF (giF x h nm a p2) fun b p3 => bnF (numF x 0 99 p3) fun v p4 => bnF (numF x 0 9 p4) fun t p5 => .inr ((a, b, v, t), p5)
noncomputable def lawL (x : Tx) (l : Int) (p : Nat) : Fl ⊕ ((Int × Int) × Nat) :=
  if l = 0 then bnF (numF x 2 6 (nxF x p)) fun n p2 => if 20 ≤ tkF x p2 ∧ tkF x p2 ≤ 23 then .inr ((n, ((tkF x p2 - 20 : Nat) : Int)), nxF x p2) else .inl (1, plF x p2) else .inl (3, plF x p)
/-! what a line makes of the village -/
def whoH (h : Nat → Int) (t a : Int) : Nat → Int := up1 (up1 (up1 h (7 + (h 0).toNat) t) (15 + (h 0).toNat) a) 0 (h 0 + 1)
def sortH (h : Nat → Int) (v : Int) : Nat → Int := up1 (up1 h (23 + (h 1).toNat) v) 1 (h 1 + 1)
def unitH (ln a b s t : Int) (h : Nat → Int) : Nat → Int := up1 (up1 (up1 (up1 (up1 (up1 h (29 + 5 * (h 2).toNat) ln) (30 + 5 * (h 2).toNat) s) (31 + 5 * (h 2).toNat) a) (32 + 5 * (h 2).toNat) b) (33 + 5 * (h 2).toNat) t) 2 (h 2 + 1)
def unitsH (ln a b s t : Int) : Nat → (Nat → Int) → (Nat → Int)
  | 0, h => h
  | n + 1, h => unitH ln a b s t (unitsH ln a b s t n h)
def wantH (h : Nat → Int) (a s v b : Int) : Nat → Int := up1 (up1 (up1 (up1 (up1 h (109 + 4 * (h 3).toNat) a) (110 + 4 * (h 3).toNat) s) (111 + 4 * (h 3).toNat) v) (112 + 4 * (h 3).toNat) b) 3 (h 3 + 1)
def giveH (h : Nat → Int) (a b v t : Int) : Nat → Int := up1 (up1 (up1 h (141 + (8 * a.toNat + b.toNat)) v) (205 + (8 * a.toNat + b.toNat)) t) (269 + (8 * a.toNat + b.toNat)) 1
def lawH (h : Nat → Int) (n b : Int) : Nat → Int := up1 (up1 h 4 n) 5 b
abbrev DS : Type := (Nat → Int) × (Nat → Int) × Int
noncomputable def lineF (x : Tx) (ln : Int) (s : DS) (p : Nat) : Fl ⊕ (DS × Nat) :=
  if tkF x p = 10 then bnF (whoL x s.1 s.2.1 p) fun r q => .inr ((whoH s.1 r.1 r.2, up1 s.2.1 (14 + (s.1 0).toNat) (f256 (liF x (nxF x p))), s.2.2), q)
  else if tkF x p = 13 then bnF (sortL x s.1 s.2.1 p) fun r q => .inr ((sortH s.1 r, up1 s.2.1 (22 + (s.1 1).toNat) (f256 (liF x (nxF x p))), s.2.2), q)
  else if tkF x p = 14 then bnF (makesL x s.1 s.2.1 p) fun r q => .inr ((unitsH ln r.1 r.2.1 r.2.2.1 r.2.2.2.2 r.2.2.2.1.toNat s.1, s.2.1, s.2.2), q)
  else if tkF x p = 16 then bnF (wantsL x s.1 s.2.1 p) fun r q => .inr ((wantH s.1 r.1 r.2.1 r.2.2.1 r.2.2.2, s.2.1, s.2.2), q)
  else if tkF x p = 18 then bnF (givesL x s.1 s.2.1 p) fun r q => .inr ((giveH s.1 r.1 r.2.1 r.2.2.1 r.2.2.2, s.2.1, s.2.2), q)
  else if tkF x p = 19 then bnF (lawL x s.2.2 p) fun r q => .inr ((lawH s.1 r.1 r.2, s.2.1, 1), q)
  else .inl (1, plF x p)
noncomputable def readF (x : Tx) : Nat → Int → DS → Nat → Fl ⊕ (DS × Int)
  | 0, _, _, _ => .inl (0, 0)
  | m + 1, ln, s, p => if tkF x p = 0 then .inr (s, ln) else bnF (lineF x ln s p) fun s2 p2 => if tkF x p2 = 3 then readF x m (ln + 1) s2 (nxF x p2) else .inl (1, plF x p2)
theorem fnF_bd (nm : Nat → Int) (v : Int) (a : Nat) : ∀ m k, fnF nm v a m k = -1 ∨ ((k : Int) ≤ fnF nm v a m k ∧ fnF nm v a m k < (k : Int) + m)
  | 0, _ => Or.inl rfl
  | m + 1, k => by
    show (if nm (a + k) = v then (k : Int) else fnF nm v a m (k + 1)) = -1 ∨ ((k : Int) ≤ (if nm (a + k) = v then (k : Int) else fnF nm v a m (k + 1)) ∧ (if nm (a + k) = v then (k : Int) else fnF nm v a m (k + 1)) < (k : Int) + (m + 1 : Nat))
    by_cases z : nm (a + k) = v
    · rw [if_pos z]; right; omega
    · rw [if_neg z]
      have := fnF_bd nm v a m (k + 1)
      omega
theorem fdF_bd (nm : Nat → Int) (v : Int) (a : Nat) (n : Int) : fdF nm v a n = -1 ∨ (0 ≤ fdF nm v a n ∧ fdF nm v a n < n) := by
  have := fnF_bd nm v a n.toNat 0
  unfold fdF
  omega
/-! what a reading gives -/
theorem numF_r {x : Tx} {lo hi v : Int} {p q : Nat} (h : numF x lo hi p = .inr (v, q)) : tkF x p = 4 ∧ lo ≤ v ∧ v ≤ hi ∧ v = vnF x p ∧ q = nxF x p := by
  unfold numF at h
  by_cases z : tkF x p = 4
  · rw [if_pos z] at h
    by_cases y : lo ≤ vnF x p ∧ vnF x p ≤ hi
    · rw [if_pos y] at h
      injection h with h
      injection h with h1 h2
      rw [← h1, ← h2]
      exact ⟨z, y.1, y.2, rfl, rfl⟩
    · rw [if_neg y] at h; cases h
  · rw [if_neg z] at h; cases h
theorem numF_nx {x : Tx} {lo hi v : Int} {p q : Nat} (hp : p ≤ x.L) (h : numF x lo hi p = .inr (v, q)) : p < q ∧ q ≤ x.L := by
  have := numF_r h
  have n := tkF_nx (x := x) (p := p) (by omega)
  omega
theorem optF_r {x : Tx} {kw : Nat} {lo hi v0 v : Int} {p q : Nat} (hp : p ≤ x.L) (h0 : lo ≤ v0 ∧ v0 ≤ hi) (h : optF x kw lo hi v0 p = .inr (v, q)) : lo ≤ v ∧ v ≤ hi ∧ p ≤ q ∧ q ≤ x.L := by
  unfold optF at h
  by_cases z : tkF x p = 10 + kw
  · rw [if_pos z] at h
    have n := tkF_nx (x := x) (p := p) (by omega)
    have a := numF_r h
    have b := numF_nx n.2 h
    omega
  · rw [if_neg z] at h
    injection h with h
    injection h with h1 h2
    omega
theorem whF_r {x : Tx} {h nm : Nat → Int} {but v : Int} {p q : Nat} (e : whF x h nm but p = .inr (v, q)) : 0 ≤ v ∧ v < h 0 ∧ v ≠ but ∧ p < q ∧ q ≤ x.L := by
  unfold whF at e
  have b := fdF_bd nm (f256 (liF x p)) 14 (h 0)
  by_cases z : tkF x p = 6
  · rw [if_pos z] at e
    have n := tkF_nx (x := x) (p := p) (by omega)
    by_cases y : fdF nm (f256 (liF x p)) 14 (h 0) < 0 ∨ fdF nm (f256 (liF x p)) 14 (h 0) = but
    · rw [if_pos y] at e; cases e
    · rw [if_neg y] at e
      injection e with e
      injection e with h1 h2
      omega
  · rw [if_neg z] at e; cases e
theorem soF_r {x : Tx} {h nm : Nat → Int} {v : Int} {p q : Nat} (e : soF x h nm p = .inr (v, q)) : 0 ≤ v ∧ v < h 1 ∧ p < q ∧ q ≤ x.L := by
  unfold soF at e
  have b := fdF_bd nm (f256 (liF x p)) 22 (h 1)
  by_cases z : tkF x p = 6
  · rw [if_pos z] at e
    have n := tkF_nx (x := x) (p := p) (by omega)
    by_cases y : fdF nm (f256 (liF x p)) 22 (h 1) < 0
    · rw [if_pos y] at e; cases e
    · rw [if_neg y] at e
      injection e with e
      injection e with h1 h2
      omega
  · rw [if_neg z] at e; cases e
theorem frF_r {x : Tx} {h nm : Nat → Int} {v : Int} {p q : Nat} (e : frF x h nm p = .inr (v, q)) : tkF x p = 6 ∧ v = f256 (liF x p) ∧ p < q ∧ q ≤ x.L ∧ q = nxF x p := by
  unfold frF at e
  by_cases z : tkF x p = 6
  · rw [if_pos z] at e
    have n := tkF_nx (x := x) (p := p) (by omega)
    by_cases y : 0 ≤ fdF nm (f256 (liF x p)) 14 (h 0) ∨ 0 ≤ fdF nm (f256 (liF x p)) 22 (h 1)
    · rw [if_pos y] at e; cases e
    · rw [if_neg y] at e
      injection e with e
      injection e with h1 h2
      exact ⟨z, h1.symm, by omega, by omega, h2.symm⟩
  · rw [if_neg z] at e; cases e
theorem giF_r {x : Tx} {h nm : Nat → Int} {a v : Int} {p q : Nat} (e : giF x h nm a p = .inr (v, q)) : 0 ≤ v ∧ v < h 0 ∧ v ≠ a ∧ ¬ h (269 + (8 * a.toNat + v.toNat)) = 1 ∧ p < q ∧ q ≤ x.L := by
  unfold giF at e
  have b := fdF_bd nm (f256 (liF x p)) 14 (h 0)
  by_cases z : tkF x p = 6
  · rw [if_pos z] at e
    have n := tkF_nx (x := x) (p := p) (by omega)
    by_cases y : fdF nm (f256 (liF x p)) 14 (h 0) < 0 ∨ fdF nm (f256 (liF x p)) 14 (h 0) = a ∨ h (269 + (8 * a.toNat + (fdF nm (f256 (liF x p)) 14 (h 0)).toNat)) = 1
    · rw [if_pos y] at e; cases e
    · rw [if_neg y] at e
      injection e with e
      injection e with h1 h2
      rw [← h1, ← h2]
      refine ⟨by omega, by omega, fun a => y (Or.inr (Or.inl a)), fun a => y (Or.inr (Or.inr a)), n.1, n.2⟩
  · rw [if_neg z] at e; cases e
theorem bnF_inv {α β : Type} {r : Fl ⊕ (α × Nat)} {f : α → Nat → Fl ⊕ β} {b : β} (h : bnF r f = .inr b) : ∃ a q, r = .inr (a, q) ∧ f a q = .inr b := by
  match r, h with
  | .inl e, h => cases h
  | .inr a, h => exact ⟨a.1, a.2, rfl, h⟩
theorem inr_pair {α β : Type} {γ : Type} {a b : α} {c d : β} (h : (Sum.inr (a, c) : γ ⊕ (α × β)) = .inr (b, d)) : a = b ∧ c = d := by
  injection h with h
  injection h with h1 h2
  exact ⟨h1, h2⟩
