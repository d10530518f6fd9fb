/-! a day told act by act -/
abbrev DY : Type := (Nat → Int) × (Nat → Nat) × (Nat → Nat) × (Nat → Nat) × (Nat → Nat) × (Nat) × (Nat) × (Nat)
abbrev DY.ho (h_ : DY) : Nat → Int := h_.1
abbrev DY.ma (h_ : DY) : Nat → Nat := h_.2.1
abbrev DY.fr (h_ : DY) : Nat → Nat := h_.2.2.1
abbrev DY.hd (h_ : DY) : Nat → Nat := h_.2.2.2.1
abbrev DY.tw (h_ : DY) : Nat → Nat := h_.2.2.2.2.1
abbrev DY.H (h_ : DY) : Nat := h_.2.2.2.2.2.1
abbrev DY.M (h_ : DY) : Nat := h_.2.2.2.2.2.2.1
abbrev DY.P (h_ : DY) : Nat := h_.2.2.2.2.2.2.2
def spS (s : Nat → Int) (u : Nat) : Int := s (33 + 5 * u) + s (23 + (s (30 + 5 * u)).toNat)
def wnF (s : Nat → Int) (H M : Nat) (a so : Int) : Nat → Nat → Int
  | 0, _ => -1
  | m + 1, v => if s (109 + 4 * v) = a ∧ s (110 + 4 * v) = so ∧ M.testBit v = false ∧ (H : Int) ≤ s (112 + 4 * v) then v else wnF s H M a so m (v + 1)
theorem wnF_yes {s : Nat → Int} {H M : Nat} {a so : Int} {m v : Nat} (h1 : s (109 + 4 * v) = a) (h2 : s (110 + 4 * v) = so) (h3 : M.testBit v = false) (h4 : (H : Int) ≤ s (112 + 4 * v)) : wnF s H M a so (m + 1) v = v := by
  show (if s (109 + 4 * v) = a ∧ s (110 + 4 * v) = so ∧ M.testBit v = false ∧ (H : Int) ≤ s (112 + 4 * v) then (v : Int) else wnF s H M a so m (v + 1)) = v
  rw [if_pos ⟨h1, h2, h3, h4⟩]
theorem wnF_no {s : Nat → Int} {H M : Nat} {a so : Int} {m v : Nat} (h : ¬ (s (109 + 4 * v) = a ∧ s (110 + 4 * v) = so ∧ M.testBit v = false ∧ (H : Int) ≤ s (112 + 4 * v))) : wnF s H M a so (m + 1) v = wnF s H M a so m (v + 1) := by
  show (if s (109 + 4 * v) = a ∧ s (110 + 4 * v) = so ∧ M.testBit v = false ∧ (H : Int) ≤ s (112 + 4 * v) then (v : Int) else wnF s H M a so m (v + 1)) = _
  rw [if_neg h]
theorem wnF_bd (s : Nat → Int) (H M : Nat) (a so : Int) : ∀ m v : Nat, wnF s H M a so m v = -1 ∨ ∃ x : Nat, wnF s H M a so m v = x ∧ x < v + m
  | 0, v => Or.inl rfl
  | m + 1, v => by
    by_cases z : s (109 + 4 * v) = a ∧ s (110 + 4 * v) = so ∧ M.testBit v = false ∧ (H : Int) ≤ s (112 + 4 * v)
    · rw [wnF_yes z.1 z.2.1 z.2.2.1 z.2.2.2]
      exact Or.inr ⟨v, rfl, by omega⟩
    · rw [wnF_no z]
      rcases wnF_bd s H M a so m (v + 1) with q | ⟨x, q, q2⟩
      · exact Or.inl q
      · exact Or.inr ⟨x, q, by omega⟩
def wnD (s : Nat → Int) (D : DY) (a : Int) (u : Nat) : Int := wnF s D.H D.M a (s (30 + 5 * u)) (s 3).toNat 0
def whN (s : Nat → Int) (D : DY) (u : Nat) : Int := if (D.H : Int) < s (33 + 5 * u) then 1 else if D.ho u = -2 ∨ spS s u ≤ D.H then 2 else if D.H < D.fr u then 3 else 0
def whU (s : Nat → Int) (D : DY) (u : Nat) : Int := if 0 < whN s D u then whN s D u else if ¬ (D.ma u : Int) = s 4 then 6 else if wnD s D (D.ho u) u < 0 then 7 else 0
/-- who gives: the one who has it, of two first ones the lesser who is told to -/
def gvD (s : Nat → Int) (u : Nat) (h : Int) (to : Nat) : Int :=
  if 0 ≤ h then (if s (269 + (8 * h.toNat + to)) = 1 then h else -1)
  else if s (32 + 5 * u) < 0 ∨ s (31 + 5 * u) < s (32 + 5 * u) then
    (if s (269 + (8 * (s (31 + 5 * u)).toNat + to)) = 1 then s (31 + 5 * u) else if 0 ≤ s (32 + 5 * u) ∧ s (269 + (8 * (s (32 + 5 * u)).toNat + to)) = 1 then s (32 + 5 * u) else -1)
  else (if s (269 + (8 * (s (32 + 5 * u)).toNat + to)) = 1 then s (32 + 5 * u) else if s (269 + (8 * (s (31 + 5 * u)).toNat + to)) = 1 then s (31 + 5 * u) else -1)
def fbD (s : Nat → Int) (D : DY) (u a to : Nat) : Bool :=
  if s 5 = 1 then (D.hd u ||| 2 ^ a).testBit to && !(fiR s u to)
  else if s 5 = 2 then (D.hd u ||| 2 ^ a).testBit to || fiR s u to
  else if s 5 = 3 then (D.tw u ||| 2 ^ (s (7 + a)).toNat).testBit (s (7 + to)).toNat
  else false
def upN {α : Type} (f : Nat → α) (i : Nat) (v : α) : Nat → α := fun j => if j = i then v else f j
theorem upN_ap {α : Type} (f : Nat → α) (i : Nat) (v : α) (j : Nat) : upN f i v j = if j = i then v else f j := rfl
def wtD (D : DY) (b : Nat) : DY := ⟨D.ho, D.ma, D.fr, D.hd, D.tw, D.H + b, D.M, D.P⟩
def usD (D : DY) (u v : Nat) : DY := ⟨upN D.ho u (-2), upN D.ma u 0, D.fr, D.hd, D.tw, D.H, D.M ||| 2 ^ v, D.P⟩
def giD (s : Nat → Int) (D : DY) (u a to : Nat) : DY := ⟨upN D.ho u (to : Int), upN D.ma u (D.ma u + 1), upN D.fr u (D.H + (s (205 + (8 * a + to))).toNat), upN D.hd u (D.hd u ||| (2 ^ a ||| 2 ^ to)), upN D.tw u (D.tw u ||| (2 ^ (s (7 + a)).toNat ||| 2 ^ (s (7 + to)).toNat)), D.H, D.M, D.P + (s (141 + (8 * a + to))).toNat⟩
def doY (s : Nat → Int) (D : DY) (k : Nat) : Int :=
  if s (334 + 3 * k) = 2 then (if 47 < D.H + s (335 + 3 * k) then 8 else 0)
  else if s (334 + 3 * k) = 1 then whU s D (s (335 + 3 * k)).toNat
  else if 0 < whN s D (s (335 + 3 * k)).toNat then whN s D (s (335 + 3 * k)).toNat
  else if gvD s (s (335 + 3 * k)).toNat (D.ho (s (335 + 3 * k)).toNat) (s (336 + 3 * k)).toNat < 0 then 4
  else if fbD s D (s (335 + 3 * k)).toNat (gvD s (s (335 + 3 * k)).toNat (D.ho (s (335 + 3 * k)).toNat) (s (336 + 3 * k)).toNat).toNat (s (336 + 3 * k)).toNat = true then 5 else 0
def doD (s : Nat → Int) (D : DY) (k : Nat) : DY :=
  if doY s D k = 0 then
    (if s (334 + 3 * k) = 2 then wtD D (s (335 + 3 * k)).toNat
     else if s (334 + 3 * k) = 1 then usD D (s (335 + 3 * k)).toNat (wnD s D (D.ho (s (335 + 3 * k)).toNat) (s (335 + 3 * k)).toNat).toNat
     else giD s D (s (335 + 3 * k)).toNat (gvD s (s (335 + 3 * k)).toNat (D.ho (s (335 + 3 * k)).toNat) (s (336 + 3 * k)).toNat).toNat (s (336 + 3 * k)).toNat)
  else D
/-- the rest of the acts: where it stops, why, and the day then -/
def goI (s : Nat → Int) : Nat → Nat → DY → Nat
  | 0, i, _ => i
  | m + 1, i, D => if doY s D i = 0 then goI s m (i + 1) (doD s D i) else i
def goY (s : Nat → Int) : Nat → Nat → DY → Int
  | 0, _, _ => 0
  | m + 1, i, D => if doY s D i = 0 then goY s m (i + 1) (doD s D i) else doY s D i
def goD (s : Nat → Int) : Nat → Nat → DY → DY
  | 0, _, D => D
  | m + 1, i, D => if doY s D i = 0 then goD s m (i + 1) (doD s D i) else D
def D0 : DY := ⟨fun _ => -1, fun _ => 1, fun _ => 0, fun _ => 0, fun _ => 0, 0, 0, 0⟩
/-- what holds of a day after i acts -/
def DOk (s : Nat → Int) (i : Nat) (D : DY) : Prop := (D.H ≤ 47) ∧ (D.M < 256) ∧ (D.P ≤ 99 * i) ∧ (∀ u : Nat, (u : Int) < s 2 → (D.ho u = -2 ∧ D.ma u = 0) ∨ (D.ho u = -1 ∧ D.ma u = 1 ∧ D.hd u = 0) ∨ (∃ p : Nat, p < 8 ∧ D.ho u = p ∧ 2 ≤ D.ma u ∧ D.ma u ≤ i + 1 ∧ (D.hd u).testBit p = true ∧ s (33 + 5 * u) ≤ D.H)) ∧ (∀ u : Nat, (u : Int) < s 2 → D.fr u ≤ 60) ∧ (∀ u : Nat, (u : Int) < s 2 → D.hd u < 256) ∧ (∀ u p : Nat, (u : Int) < s 2 → (D.hd u).testBit p = true → (p : Int) < s 0) ∧ (∀ u : Nat, (u : Int) < s 2 → D.tw u < 1024) ∧ (∀ u t : Nat, (u : Int) < s 2 → ((D.tw u).testBit t = true ↔ ∃ p : Nat, (D.hd u).testBit p = true ∧ s (7 + p) = t))
theorem DOk.mk {s : Nat → Int} {i : Nat} {D : DY} (hH_ : D.H ≤ 47) (hM_ : D.M < 256) (hP_ : D.P ≤ 99 * i) (st_ : ∀ u : Nat, (u : Int) < s 2 → (D.ho u = -2 ∧ D.ma u = 0) ∨ (D.ho u = -1 ∧ D.ma u = 1 ∧ D.hd u = 0) ∨ (∃ p : Nat, p < 8 ∧ D.ho u = p ∧ 2 ≤ D.ma u ∧ D.ma u ≤ i + 1 ∧ (D.hd u).testBit p = true ∧ s (33 + 5 * u) ≤ D.H)) (fr_ : ∀ u : Nat, (u : Int) < s 2 → D.fr u ≤ 60) (hd_ : ∀ u : Nat, (u : Int) < s 2 → D.hd u < 256) (hp_ : ∀ u p : Nat, (u : Int) < s 2 → (D.hd u).testBit p = true → (p : Int) < s 0) (tw_ : ∀ u : Nat, (u : Int) < s 2 → D.tw u < 1024) (tt_ : ∀ u t : Nat, (u : Int) < s 2 → ((D.tw u).testBit t = true ↔ ∃ p : Nat, (D.hd u).testBit p = true ∧ s (7 + p) = t)) : DOk s i D := And.intro hH_ (And.intro hM_ (And.intro hP_ (And.intro st_ (And.intro fr_ (And.intro hd_ (And.intro hp_ (And.intro tw_ (tt_))))))))
theorem DOk.hH {s : Nat → Int} {i : Nat} {D : DY} (h_ : DOk s i D) : D.H ≤ 47 := h_.1
theorem DOk.hM {s : Nat → Int} {i : Nat} {D : DY} (h_ : DOk s i D) : D.M < 256 := h_.2.1
theorem DOk.hP {s : Nat → Int} {i : Nat} {D : DY} (h_ : DOk s i D) : D.P ≤ 99 * i := h_.2.2.1
theorem DOk.st {s : Nat → Int} {i : Nat} {D : DY} (h_ : DOk s i D) : ∀ u : Nat, (u : Int) < s 2 → (D.ho u = -2 ∧ D.ma u = 0) ∨ (D.ho u = -1 ∧ D.ma u = 1 ∧ D.hd u = 0) ∨ (∃ p : Nat, p < 8 ∧ D.ho u = p ∧ 2 ≤ D.ma u ∧ D.ma u ≤ i + 1 ∧ (D.hd u).testBit p = true ∧ s (33 + 5 * u) ≤ D.H) := h_.2.2.2.1
theorem DOk.fr {s : Nat → Int} {i : Nat} {D : DY} (h_ : DOk s i D) : ∀ u : Nat, (u : Int) < s 2 → D.fr u ≤ 60 := h_.2.2.2.2.1
theorem DOk.hd {s : Nat → Int} {i : Nat} {D : DY} (h_ : DOk s i D) : ∀ u : Nat, (u : Int) < s 2 → D.hd u < 256 := h_.2.2.2.2.2.1
theorem DOk.hp {s : Nat → Int} {i : Nat} {D : DY} (h_ : DOk s i D) : ∀ u p : Nat, (u : Int) < s 2 → (D.hd u).testBit p = true → (p : Int) < s 0 := h_.2.2.2.2.2.2.1
theorem DOk.tw {s : Nat → Int} {i : Nat} {D : DY} (h_ : DOk s i D) : ∀ u : Nat, (u : Int) < s 2 → D.tw u < 1024 := h_.2.2.2.2.2.2.2.1
theorem DOk.tt {s : Nat → Int} {i : Nat} {D : DY} (h_ : DOk s i D) : ∀ u t : Nat, (u : Int) < s 2 → ((D.tw u).testBit t = true ↔ ∃ p : Nat, (D.hd u).testBit p = true ∧ s (7 + p) = t) := h_.2.2.2.2.2.2.2.2
theorem DOk.zero (s : Nat → Int) : DOk s 0 D0 := by
  refine (DOk.mk (Nat.zero_le _) (by decide) (Nat.le_refl _) (fun u _ => Or.inr (Or.inl ⟨rfl, rfl, rfl⟩)) (fun _ _ => Nat.zero_le _) (fun _ _ => by show 0 < 256; omega) (fun u p _ h => ?_) (fun _ _ => by show 0 < 1024; omega) (fun u t _ => ?_))
  · have h : (0 : Nat).testBit p = true := h
    simp at h
  · show (0 : Nat).testBit t = true ↔ ∃ p : Nat, (0 : Nat).testBit p = true ∧ s (7 + p) = t
    simp
theorem two8 {p : Nat} (h : p < 8) : 2 ^ p < 256 := by
  have := Nat.pow_lt_pow_right (a := 2) (by omega) h
  exact this
theorem two10 {p : Nat} (h : p < 10) : 2 ^ p < 1024 := by
  have := Nat.pow_lt_pow_right (a := 2) (by omega) h
  exact this
theorem or8 {a b : Nat} (ha : a < 256) (hb : b < 256) : a ||| b < 256 := Nat.or_lt_two_pow (n := 8) ha hb
theorem or10 {a b : Nat} (ha : a < 1024) (hb : b < 1024) : a ||| b < 1024 := Nat.or_lt_two_pow (n := 10) ha hb
theorem gvD_bd {s : Nat → Int} (ws : WS s) {u to : Nat} (hu : (u : Int) < s 2) {h : Int} (hh : h < 0 ∨ ∃ p : Nat, p < 8 ∧ h = p) (hto : to < 8) : gvD s u h to = -1 ∨ ∃ a : Nat, gvD s u h to = a ∧ a < 8 ∧ (a : Int) < s 0 ∧ s (269 + (8 * a + to)) = 1 := by
  have mk := ws.mak u hu
  have pr := ws.par u hu
  have pe := ws.pe
  have tin : ∀ a : Nat, a < 8 → s (269 + (8 * a + to)) = 1 → (a : Int) < s 0 := fun a ha h => (ws.tin a to ha hto h).1
  obtain ⟨m, hm⟩ := Int.eq_ofNat_of_zero_le mk.1
  unfold gvD
  rw [hm, Int.toNat_natCast]
  rcases hh with z | ⟨p, p8, hp⟩
  · rw [if_neg (by omega)]
    by_cases q : s (32 + 5 * u) < 0 ∨ (m : Int) < s (32 + 5 * u)
    · rw [if_pos q]
      by_cases q1 : s (269 + (8 * m + to)) = 1
      · rw [if_pos q1]; exact Or.inr ⟨m, rfl, by omega, by omega, q1⟩
      · rw [if_neg q1]
        by_cases q2 : 0 ≤ s (32 + 5 * u) ∧ s (269 + (8 * (s (32 + 5 * u)).toNat + to)) = 1
        · rw [if_pos q2]
          obtain ⟨r, hr⟩ := Int.eq_ofNat_of_zero_le q2.1
          rw [hr, Int.toNat_natCast] at q2
          rw [hr]
          exact Or.inr ⟨r, rfl, by omega, by omega, q2.2⟩
        · rw [if_neg q2]; exact Or.inl rfl
    · rw [if_neg q]
      obtain ⟨r, hr⟩ := Int.eq_ofNat_of_zero_le (show 0 ≤ s (32 + 5 * u) by omega)
      rw [hr, Int.toNat_natCast]
      by_cases q1 : s (269 + (8 * r + to)) = 1
      · rw [if_pos q1]; exact Or.inr ⟨r, rfl, by omega, by omega, q1⟩
      · rw [if_neg q1]
        by_cases q2 : s (269 + (8 * m + to)) = 1
        · rw [if_pos q2]; exact Or.inr ⟨m, rfl, by omega, by omega, q2⟩
        · rw [if_neg q2]; exact Or.inl rfl
  · rw [hp, if_pos (by omega), Int.toNat_natCast]
    by_cases q : s (269 + (8 * p + to)) = 1
    · rw [if_pos q]; exact Or.inr ⟨p, rfl, p8, tin p p8 q, q⟩
    · rw [if_neg q]; exact Or.inl rfl
theorem DOk.mono {s : Nat → Int} {i : Nat} {D : DY} (h : DOk s i D) : DOk s (i + 1) D := by
  refine (DOk.mk (h.hH) (h.hM) (by have := h.hP; omega) (fun u hu => ?_) (h.fr) (h.hd) (h.hp) (h.tw) (h.tt))
  rcases h.st u hu with z | z | ⟨p, a, b, c, e, f, g⟩
  · exact Or.inl z
  · exact Or.inr (Or.inl z)
  · exact Or.inr (Or.inr ⟨p, a, b, c, by omega, f, g⟩)
theorem DOk.wait {s : Nat → Int} {i b : Nat} {D : DY} (h : DOk s i D) (hb : D.H + b ≤ 47) : DOk s (i + 1) (wtD D b) := by
  refine (DOk.mk (hb) (h.hM) (by have := h.hP; show D.P ≤ _; omega) (fun u hu => ?_) (h.fr) (h.hd) (h.hp) (h.tw) (h.tt))
  rcases h.st u hu with z | z | ⟨p, a, b', c, e, f, g⟩
  · exact Or.inl z
  · exact Or.inr (Or.inl z)
  · refine Or.inr (Or.inr ⟨p, a, b', c, ?_, f, ?_⟩)
    · show D.ma u ≤ _; omega
    · show _ ≤ ((D.H + b : Nat) : Int); omega
theorem DOk.use {s : Nat → Int} {i x v : Nat} {D : DY} (h : DOk s i D) (hv : v < 8) : DOk s (i + 1) (usD D x v) := by
  refine (DOk.mk (h.hH) (or8 h.hM (two8 hv)) (by have := h.hP; show D.P ≤ _; omega) (fun u hu => ?_) (h.fr) (h.hd) (h.hp) (h.tw) (h.tt))
  show (upN D.ho x (-2) u = -2 ∧ upN D.ma x 0 u = 0) ∨ (upN D.ho x (-2) u = -1 ∧ upN D.ma x 0 u = 1 ∧ D.hd u = 0) ∨ (∃ p : Nat, p < 8 ∧ upN D.ho x (-2) u = p ∧ 2 ≤ upN D.ma x 0 u ∧ upN D.ma x 0 u ≤ i + 1 + 1 ∧ (D.hd u).testBit p = true ∧ s (33 + 5 * u) ≤ D.H)
  rw [upN_ap, upN_ap]
  by_cases q : u = x
  · rw [if_pos q, if_pos q]; exact Or.inl ⟨rfl, rfl⟩
  · rw [if_neg q, if_neg q]
    rcases h.st u hu with z | z | ⟨p, a, b', c, e, f, g⟩
    · exact Or.inl z
    · exact Or.inr (Or.inl z)
    · exact Or.inr (Or.inr ⟨p, a, b', c, by omega, f, g⟩)
theorem DOk.give {s : Nat → Int} (ws : WS s) {i x a to : Nat} {D : DY} (h : DOk s i D) (hx : (x : Int) < s 2) (ha : a < 8) (ha0 : (a : Int) < s 0) (hto : to < 8) (hto0 : (to : Int) < s 0) (hm : s (33 + 5 * x) ≤ D.H) (hg : ¬ D.ho x = -2) : DOk s (i + 1) (giD s D x a to) := by
  have ho := ws.hou (8 * a + to) (by omega)
  have pa := ws.pai (8 * a + to) (by omega)
  have ta := ws.town a ha
  have tt := ws.town to hto
  have hP := h.hP
  have hH := h.hH
  refine (DOk.mk (h.hH) (h.hM) ?_ (fun u hu => ?_) (fun u hu => ?_) (fun u hu => ?_) (fun u p hu => ?_) (fun u hu => ?_) (fun u t hu => ?_))
  · show D.P + (s (141 + (8 * a + to))).toNat ≤ _; omega
  · show (upN D.ho x (to : Int) u = -2 ∧ upN D.ma x (D.ma x + 1) u = 0) ∨ (upN D.ho x (to : Int) u = -1 ∧ upN D.ma x (D.ma x + 1) u = 1 ∧ upN D.hd x (D.hd x ||| (2 ^ a ||| 2 ^ to)) u = 0) ∨ (∃ p : Nat, p < 8 ∧ upN D.ho x (to : Int) u = p ∧ 2 ≤ upN D.ma x (D.ma x + 1) u ∧ upN D.ma x (D.ma x + 1) u ≤ i + 1 + 1 ∧ (upN D.hd x (D.hd x ||| (2 ^ a ||| 2 ^ to)) u).testBit p = true ∧ s (33 + 5 * u) ≤ D.H)
    rw [upN_ap, upN_ap, upN_ap]
    by_cases q : u = x
    · rw [if_pos q, if_pos q, if_pos q]
      refine Or.inr (Or.inr ⟨to, hto, rfl, ?_, ?_, ?_, by rw [q]; exact hm⟩)
      · rcases h.st x hx with z | z | ⟨p, a, b', c, e, f, g⟩
        · exact absurd z.1 hg
        · omega
        · omega
      · rcases h.st x hx with z | z | ⟨p, a, b', c, e, f, g⟩
        · exact absurd z.1 hg
        · omega
        · omega
      · rw [Nat.testBit_or, Nat.testBit_or, Nat.testBit_two_pow_self, Bool.or_true, Bool.or_true]
    · rw [if_neg q, if_neg q, if_neg q]
      rcases h.st u hu with z | z | ⟨p, a, b', c, e, f, g⟩
      · exact Or.inl z
      · exact Or.inr (Or.inl z)
      · exact Or.inr (Or.inr ⟨p, a, b', c, by omega, f, g⟩)
  · show upN D.fr x _ u ≤ 60
    rw [upN_ap]
    by_cases q : u = x
    · rw [if_pos q]; omega
    · rw [if_neg q]; exact h.fr u hu
  · show upN D.hd x _ u < 256
    rw [upN_ap]
    by_cases q : u = x
    · rw [if_pos q]; exact or8 (h.hd x hx) (or8 (two8 ha) (two8 hto))
    · rw [if_neg q]; exact h.hd u hu
  · show (upN D.hd x _ u).testBit p = true → _
    rw [upN_ap]
    by_cases q : u = x
    · rw [if_pos q, Nat.testBit_or, Nat.testBit_or, Nat.testBit_two_pow, Nat.testBit_two_pow, Bool.or_eq_true, Bool.or_eq_true, decide_eq_true_eq, decide_eq_true_eq]
      rintro (z | z | z)
      · exact h.hp x p hx z
      · omega
      · omega
    · rw [if_neg q]; exact h.hp u p hu
  · show upN D.tw x _ u < 1024
    rw [upN_ap]
    by_cases q : u = x
    · rw [if_pos q]; exact or10 (h.tw x hx) (or10 (two10 (by omega)) (two10 (by omega)))
    · rw [if_neg q]; exact h.tw u hu
  · show (upN D.tw x _ u).testBit t = true ↔ ∃ p : Nat, (upN D.hd x _ u).testBit p = true ∧ _
    rw [upN_ap]
    simp only [upN_ap]
    by_cases q : u = x
    · simp only [if_pos q]
      rw [Nat.testBit_or, Nat.testBit_or, Nat.testBit_two_pow, Nat.testBit_two_pow, Bool.or_eq_true, Bool.or_eq_true, decide_eq_true_eq, decide_eq_true_eq, h.tt x t hx]
      constructor
      · rintro (⟨p, z1, z2⟩ | z | z)
        · exact ⟨p, by rw [Nat.testBit_or, z1, Bool.true_or], z2⟩
        · exact ⟨a, by rw [Nat.testBit_or, Nat.testBit_or, Nat.testBit_two_pow_self, Bool.true_or, Bool.or_true], by omega⟩
        · exact ⟨to, by rw [Nat.testBit_or, Nat.testBit_or, Nat.testBit_two_pow_self, Bool.or_true, Bool.or_true], by omega⟩
      · rintro ⟨p, z1, z2⟩
        rw [Nat.testBit_or, Nat.testBit_or, Nat.testBit_two_pow, Nat.testBit_two_pow, Bool.or_eq_true, Bool.or_eq_true, decide_eq_true_eq, decide_eq_true_eq] at z1
        rcases z1 with z1 | z1 | z1
        · exact Or.inl ⟨p, z1, z2⟩
        · subst z1; exact Or.inr (Or.inl (by omega))
        · subst z1; exact Or.inr (Or.inr (by omega))
    · simp only [if_neg q]
      exact h.tt u t hu
/-! bits that are gathered -/
def BitsI (v : Int) (n : Nat) (p : Nat → Prop) : Prop := in32 v ∧ ∀ k, k < 32 → (tb v k = true ↔ k < n ∧ p k)
theorem BitsI.zero (p : Nat → Prop) : BitsI 0 0 p := ⟨by unfold in32; omega, fun k _ => by rw [tb_zero]; simp⟩
theorem BitsI.yes {v : Int} {n : Nat} {p : Nat → Prop} (h : BitsI v n p) (hn : n < 31) (hp : p n) : BitsI (ior v (ishl 1 (n : Int))) (n + 1) p := by
  refine ⟨ior_in _ _, fun k hk => ?_⟩
  rw [tb_or, tb_bit (by omega) (by omega), Int.toNat_natCast, Bool.or_eq_true, h.2 k hk, decide_eq_true_eq]
  constructor
  · rintro (z | z)
    · exact ⟨by omega, z.2⟩
    · subst z; exact ⟨by omega, hp⟩
  · intro z
    by_cases q : k = n
    · exact Or.inr q
    · exact Or.inl ⟨by omega, z.2⟩
theorem BitsI.no {v : Int} {n : Nat} {p : Nat → Prop} (h : BitsI v n p) (hp : ¬ p n) : BitsI (ior v 0) (n + 1) p := by
  refine ⟨ior_in _ _, fun k hk => ?_⟩
  rw [tb_or, tb_zero, Bool.or_false, h.2 k hk]
  constructor
  · intro z; exact ⟨by omega, z.2⟩
  · intro z
    refine ⟨?_, z.2⟩
    have : k ≠ n := by intro q; subst q; exact hp z.2
    omega
theorem BitsI.uniq {v v' : Int} {n : Nat} {p : Nat → Prop} (h : BitsI v n p) (g : BitsI v' n p) : v = v' := by
  refine tb_ext h.1 g.1 (fun k hk => ?_)
  have a := h.2 k hk
  have b := g.2 k hk
  cases x : tb v k <;> cases y : tb v' k
  · rfl
  · rw [x] at a; rw [y] at b; exact absurd (a.mpr (b.mp rfl)) (by simp)
  · rw [x] at a; rw [y] at b; exact absurd (b.mpr (a.mp rfl)) (by simp)
  · rfl
