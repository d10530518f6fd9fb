/-! wants met by units: sets of choices, their values, the greatest; digits -/
def sumZ : Nat → (Nat → Int) → Int
  | 0, _ => 0
  | n + 1, g => sumZ n g + g n
theorem sumZ_ext {g h : Nat → Int} : ∀ {n : Nat}, (∀ i, i < n → g i = h i) → sumZ n g = sumZ n h
  | 0, _ => rfl
  | n + 1, e => by
    show sumZ n g + g n = sumZ n h + h n
    rw [sumZ_ext (fun i hi => e i (by omega)), e n (by omega)]
theorem sumZ_one {g h : Nat → Int} (w : Nat) (x : Int) (hw : g w = h w + x) (ho : ∀ i, i ≠ w → g i = h i) : ∀ {n : Nat}, w < n → sumZ n g = sumZ n h + x
  | 0, q => absurd q (Nat.not_lt_zero _)
  | n + 1, q => by
    show sumZ n g + g n = sumZ n h + h n + x
    by_cases e : w = n
    · subst e
      rw [sumZ_ext (n := w) (g := g) (h := h) (fun i hi => ho i (by omega)), hw]; omega
    · rw [sumZ_one w x hw ho (n := n) (by omega), ho n (by omega)]; omega
theorem sumZ_add (g h : Nat → Int) : ∀ n : Nat, sumZ n (fun i => g i + h i) = sumZ n g + sumZ n h
  | 0 => rfl
  | n + 1 => by
    show sumZ n (fun i => g i + h i) + (g n + h n) = sumZ n g + g n + (sumZ n h + h n)
    rw [sumZ_add g h n]; omega
theorem sumZ_mul (g : Nat → Int) (c : Int) : ∀ n : Nat, sumZ n (fun i => g i * c) = sumZ n g * c
  | 0 => by show (0 : Int) = 0 * c; rw [Int.zero_mul]
  | n + 1 => by
    show sumZ n (fun i => g i * c) + g n * c = (sumZ n g + g n) * c
    rw [sumZ_mul g c n, Int.add_mul]
theorem sumZ_nonneg {g : Nat → Int} : ∀ {n : Nat}, (∀ i, i < n → 0 ≤ g i) → 0 ≤ sumZ n g
  | 0, _ => Int.le_refl _
  | n + 1, e => by
    show 0 ≤ sumZ n g + g n
    have h1 := sumZ_nonneg (n := n) (fun i hi => e i (by omega))
    have h2 := e n (by omega)
    omega
theorem sumZ_le {g : Nat → Int} (b : Int) : ∀ {n : Nat}, (∀ i, i < n → g i ≤ b) → sumZ n g ≤ n * b
  | 0, _ => by show (0 : Int) ≤ ((0 : Nat) : Int) * b; simp
  | n + 1, e => by
    show sumZ n g + g n ≤ _
    have h1 := sumZ_le b (n := n) (fun i hi => e i (by omega))
    have h2 := e n (by omega)
    have h3 : ((n + 1 : Nat) : Int) * b = n * b + b := by rw [Int.natCast_succ, Int.add_mul, Int.one_mul]
    omega
def valid (W : Nat) (adj : Nat → Nat → Bool) (k : Nat) (f : Nat → Nat) : Prop :=
  (∀ w, f w ≠ 0 → w < W ∧ f w ≤ 16 ∧ 16 - f w < k ∧ adj (16 - f w) w = true) ∧ (∀ w v, f w ≠ 0 → f w = f v → w = v)
def val (c : Nat → Nat → Int) (f : Nat → Nat) : Int := sumZ 8 (fun w => if f w = 0 then 0 else c (16 - f w) w)
def Opt (W : Nat) (adj : Nat → Nat → Bool) (c : Nat → Nat → Int) (k : Nat) (S : Nat → Bool) (x : Option Int) : Prop :=
  (∀ f, valid W adj k f → (∀ w, f w ≠ 0 ↔ S w = true) → ∃ v, x = some v ∧ val c f ≤ v) ∧ (∀ v, x = some v → ∃ f, valid W adj k f ∧ (∀ w, f w ≠ 0 ↔ S w = true) ∧ val c f = v)
theorem valid_zero (W : Nat) (adj : Nat → Nat → Bool) (k : Nat) : valid W adj k (fun _ => 0) := ⟨fun _ h => absurd rfl h, fun _ _ h => absurd rfl h⟩
theorem val_zero (c : Nat → Nat → Int) : val c (fun _ => 0) = 0 := by
  unfold val
  simp only [if_true]
  rfl
theorem valid_up {W : Nat} {adj : Nat → Nat → Bool} {k j : Nat} (hkj : k ≤ j) {f : Nat → Nat} (h : valid W adj k f) : valid W adj j f := ⟨fun w hw => by
  obtain ⟨a, b, c, d⟩ := h.1 w hw
  exact ⟨a, b, by omega, d⟩, h.2⟩
theorem opt_zero_yes {W : Nat} {adj : Nat → Nat → Bool} {c : Nat → Nat → Int} {S : Nat → Bool} (h : ∀ w, S w = false) : Opt W adj c 0 S (some 0) := by
  have e0 : ∀ f : Nat → Nat, valid W adj 0 f → f = fun _ => 0 := by
    intro f hf
    funext w
    apply Classical.byContradiction
    intro q
    have := (hf.1 w q).2.2.1
    omega
  refine ⟨fun f hf _ => ⟨0, rfl, ?_⟩, fun v hv => ⟨fun _ => 0, valid_zero W adj 0, fun w => ?_, ?_⟩⟩
  · rw [e0 f hf, val_zero]; exact Int.le_refl _
  · rw [h w]; simp
  · cases hv; exact val_zero c
theorem opt_zero_no {W : Nat} {adj : Nat → Nat → Bool} {c : Nat → Nat → Int} {S : Nat → Bool} (w : Nat) (h : S w = true) : Opt W adj c 0 S none := by
  refine ⟨fun f hf hs => ?_, fun v hv => by cases hv⟩
  exfalso
  have q := (hs w).mpr h
  have := (hf.1 w q).2.2.1
  omega
def putF (f : Nat → Nat) (w d : Nat) : Nat → Nat := fun v => if v = w then d else f v
theorem val_put (c : Nat → Nat → Int) (g : Nat → Nat) (w d : Nat) (hw : w < 8) (hg : g w = 0) (hd : d ≠ 0) : val c (putF g w d) = val c g + c (16 - d) w := by
  unfold val
  refine sumZ_one w (c (16 - d) w) ?_ ?_ hw
  · show (if (putF g w d) w = 0 then (0 : Int) else c (16 - (putF g w d) w) w) = (if g w = 0 then (0 : Int) else c (16 - g w) w) + c (16 - d) w
    have e : (putF g w d) w = d := by unfold putF; rw [if_pos rfl]
    rw [e, if_neg hd, if_pos hg]; omega
  · intro i hi
    have e : (putF g w d) i = g i := by unfold putF; rw [if_neg hi]
    show (if (putF g w d) i = 0 then (0 : Int) else c (16 - (putF g w d) i) i) = _
    rw [e]
theorem opt_step {W : Nat} (hW : W ≤ 8) {adj : Nat → Nat → Bool} {c : Nat → Nat → Int} {k : Nat} (hk : k < 16) {S : Nat → Bool} {x x' : Option Int} {y : Nat → Option Int}
    (hx : Opt W adj c k S x) (hy : ∀ w, w < W → S w = true → adj k w = true → Opt W adj c k (remB S w) (y w))
    (hA : ∀ v, x = some v → ∃ v', x' = some v' ∧ v ≤ v') (hB : ∀ w, w < W → S w = true → adj k w = true → ∀ v, y w = some v → ∃ v', x' = some v' ∧ v + c k w ≤ v')
    (hC : ∀ v', x' = some v' → x = some v' ∨ ∃ w, w < W ∧ S w = true ∧ adj k w = true ∧ ∃ v, y w = some v ∧ v' = v + c k w) : Opt W adj c (k + 1) S x' := by
  have e16 : 16 - (16 - k) = k := by omega
  constructor
  · intro f hf hs
    by_cases q : ∃ w, f w = 16 - k
    · obtain ⟨w, hw⟩ := q
      have hw0 : f w ≠ 0 := by omega
      obtain ⟨w1, w2, w3, w4⟩ := hf.1 w hw0
      rw [hw, e16] at w4
      have hg : valid W adj k (putF f w 0) := by
        refine ⟨fun v hv => ?_, fun v u hv he => ?_⟩
        · by_cases z : v = w
          · exfalso; apply hv; unfold putF; rw [if_pos z]
          · have e : putF f w 0 v = f v := by unfold putF; rw [if_neg z]
            rw [e] at hv ⊢
            obtain ⟨v1, v2, v3, v4⟩ := hf.1 v hv
            refine ⟨v1, v2, ?_, v4⟩
            by_cases z2 : 16 - f v = k
            · exfalso; apply z; exact hf.2 v w hv (by omega)
            · omega
        · by_cases z : v = w
          · exfalso; apply hv; unfold putF; rw [if_pos z]
          · have e : putF f w 0 v = f v := by unfold putF; rw [if_neg z]
            rw [e] at hv he
            by_cases z2 : u = w
            · exfalso; apply hv; rw [he]; unfold putF; rw [if_pos z2]
            · have e2 : putF f w 0 u = f u := by unfold putF; rw [if_neg z2]
              rw [e2] at he
              exact hf.2 v u hv he
      have hs' : ∀ v, putF f w 0 v ≠ 0 ↔ remB S w v = true := by
        intro v
        unfold putF remB
        by_cases z : v = w
        · subst z; simp
        · rw [if_neg z, hs v]
          have : (v == w) = false := by simp; exact z
          rw [this]; simp
      obtain ⟨v, hv1, hv2⟩ := (hy w w1 ((hs w).mp hw0) w4).1 _ hg hs'
      obtain ⟨v', h1, h2⟩ := hB w w1 ((hs w).mp hw0) w4 v hv1
      refine ⟨v', h1, ?_⟩
      have ef : f = putF (putF f w 0) w (16 - k) := by
        funext v
        unfold putF
        by_cases z : v = w
        · rw [if_pos z, z, hw]
        · rw [if_neg z, if_neg z]
      have := val_put c (putF f w 0) w (16 - k) (by omega) (by unfold putF; rw [if_pos rfl]) (by omega)
      rw [← ef, e16] at this
      omega
    · have hg : valid W adj k f := by
        refine ⟨fun w hw => ?_, hf.2⟩
        obtain ⟨v1, v2, v3, v4⟩ := hf.1 w hw
        refine ⟨v1, v2, ?_, v4⟩
        by_cases z : 16 - f w = k
        · exfalso; exact q ⟨w, by omega⟩
        · omega
      obtain ⟨v, hv1, hv2⟩ := hx.1 f hg hs
      obtain ⟨v', h1, h2⟩ := hA v hv1
      exact ⟨v', h1, by omega⟩
  · intro v' hv'
    rcases hC v' hv' with h | ⟨w, h1, h2, h3, v, h4, h5⟩
    · obtain ⟨f, a, b, d⟩ := hx.2 v' h
      exact ⟨f, valid_up (by omega) a, b, d⟩
    · obtain ⟨g, a, b, d⟩ := (hy w h1 h2 h3).2 v h4
      have gw : g w = 0 := by
        apply Classical.byContradiction
        intro q
        have := (b w).mp q
        unfold remB at this
        simp at this
      have gk : ∀ v, g v ≠ 16 - k := by
        intro v q
        have := (a.1 v (by omega)).2.2.1
        omega
      refine ⟨putF g w (16 - k), ⟨fun v hv => ?_, fun v u hv he => ?_⟩, fun v => ?_, ?_⟩
      · by_cases z : v = w
        · have e : putF g w (16 - k) v = 16 - k := by unfold putF; rw [if_pos z]
          rw [e, e16]
          exact ⟨by omega, by omega, by omega, by rw [z]; exact h3⟩
        · have e : putF g w (16 - k) v = g v := by unfold putF; rw [if_neg z]
          rw [e] at hv ⊢
          obtain ⟨v1, v2, v3, v4⟩ := a.1 v hv
          exact ⟨v1, v2, by omega, v4⟩
      · by_cases z : v = w
        · have e : putF g w (16 - k) v = 16 - k := by unfold putF; rw [if_pos z]
          rw [e] at he
          by_cases z2 : u = w
          · rw [z, z2]
          · have e2 : putF g w (16 - k) u = g u := by unfold putF; rw [if_neg z2]
            rw [e2] at he
            exact absurd he.symm (gk u)
        · have e : putF g w (16 - k) v = g v := by unfold putF; rw [if_neg z]
          rw [e] at he hv
          by_cases z2 : u = w
          · have e2 : putF g w (16 - k) u = 16 - k := by unfold putF; rw [if_pos z2]
            rw [e2] at he
            exact absurd he (gk v)
          · have e2 : putF g w (16 - k) u = g u := by unfold putF; rw [if_neg z2]
            rw [e2] at he
            exact a.2 v u hv he
      · by_cases z : v = w
        · have e : putF g w (16 - k) v = 16 - k := by unfold putF; rw [if_pos z]
          rw [e, z, h2]
          simp; omega
        · have e : putF g w (16 - k) v = g v := by unfold putF; rw [if_neg z]
          rw [e, b v]
          unfold remB
          have : (v == w) = false := by simp; exact z
          rw [this]; simp
      · rw [val_put c g w (16 - k) (by omega) gw (by omega), d, e16, h5]
/-- the greatest value of all -/
def IsMax (W : Nat) (adj : Nat → Nat → Bool) (c : Nat → Nat → Int) (U : Nat) (v : Int) : Prop := (∀ f, valid W adj U f → val c f ≤ v) ∧ ∃ f, valid W adj U f ∧ val c f = v
theorem IsMax.uniq {W : Nat} {adj : Nat → Nat → Bool} {c : Nat → Nat → Int} {U : Nat} {v v' : Int} (h : IsMax W adj c U v) (h' : IsMax W adj c U v') : v = v' := by
  obtain ⟨f, a, b⟩ := h.2
  obtain ⟨g, a', b'⟩ := h'.2
  have := h.1 g a'
  have := h'.1 f a
  omega
theorem val_split (c : Nat → Nat → Int) (f f1 f2 : Nat → Nat) (h : ∀ w, (f1 w = f w ∧ f2 w = 0) ∨ (f1 w = 0 ∧ f2 w = f w)) : val c f = val c f1 + val c f2 := by
  unfold val
  rw [← sumZ_add]
  apply sumZ_ext
  intro w _
  show (if f w = 0 then (0 : Int) else c (16 - f w) w) = (if f1 w = 0 then (0 : Int) else c (16 - f1 w) w) + (if f2 w = 0 then (0 : Int) else c (16 - f2 w) w)
  rcases h w with ⟨a, b⟩ | ⟨a, b⟩
  · rw [a, b]; simp
  · rw [a, b]; simp
theorem isMax_none {W : Nat} {adj : Nat → Nat → Bool} {c : Nat → Nat → Int} {U : Nat} (h : ∀ u w, w < W → adj u w = false) : IsMax W adj c U 0 := by
  refine ⟨fun f hf => ?_, fun _ => 0, valid_zero W adj U, val_zero c⟩
  have : f = fun _ => 0 := by
    funext w
    apply Classical.byContradiction
    intro q
    have z := hf.1 w q
    rw [h _ w z.1] at z
    exact absurd z.2.2.2 (by simp)
  rw [this, val_zero]; exact Int.le_refl _
/-- sorts apart: the greatest is the sum of the greatest of each -/
theorem isMax_sorts {W : Nat} {adj : Nat → Nat → Bool} {c : Nat → Nat → Int} {U : Nat} {su sw : Nat → Nat} (hs : ∀ u w, adj u w = true → su u = sw w) (b : Nat → Int) :
    ∀ (J : Nat), (∀ j, j < J → IsMax W (fun u w => adj u w && sw w == j) c U (b j)) → IsMax W (fun u w => adj u w && decide (sw w < J)) c U (sumZ J b)
  | 0, _ => isMax_none (fun u w _ => by simp)
  | J + 1, hj => by
    have h1 := isMax_sorts hs b J (fun j hj' => hj j (by omega))
    have h2 := hj J (by omega)
    constructor
    · intro f hf
      have v1 : valid W (fun u w => adj u w && decide (sw w < J)) U (fun w => if sw w < J then f w else 0) := by
        refine ⟨fun w hw => ?_, fun w v hw he => ?_⟩
        · by_cases q : sw w < J
          · simp only [if_pos q] at hw ⊢
            obtain ⟨a, b, d, e⟩ := hf.1 w hw
            simp at e
            exact ⟨a, b, d, by simp [e.1, q]⟩
          · simp only [if_neg q] at hw; exact absurd rfl hw
        · by_cases q : sw w < J
          · simp only [if_pos q] at hw he
            by_cases q2 : sw v < J
            · simp only [if_pos q2] at he; exact hf.2 w v hw he
            · simp only [if_neg q2] at he; exact absurd he hw
          · simp only [if_neg q] at hw; exact absurd rfl hw
      have v2 : valid W (fun u w => adj u w && sw w == J) U (fun w => if sw w < J then 0 else f w) := by
        refine ⟨fun w hw => ?_, fun w v hw he => ?_⟩
        · by_cases q : sw w < J
          · simp only [if_pos q] at hw; exact absurd rfl hw
          · simp only [if_neg q] at hw ⊢
            obtain ⟨a, b, d, e⟩ := hf.1 w hw
            simp at e
            exact ⟨a, b, d, by simp [e.1]; omega⟩
        · by_cases q : sw w < J
          · simp only [if_pos q] at hw; exact absurd rfl hw
          · simp only [if_neg q] at hw he
            by_cases q2 : sw v < J
            · simp only [if_pos q2] at he; exact absurd he hw
            · simp only [if_neg q2] at he; exact hf.2 w v hw he
      have e := val_split c f (fun w => if sw w < J then f w else 0) (fun w => if sw w < J then 0 else f w) (fun w => by
        by_cases q : sw w < J
        · left; simp [q]
        · right; simp [q])
      have a1 := h1.1 _ v1
      have a2 := h2.1 _ v2
      show val c f ≤ sumZ J b + b J
      omega
    · obtain ⟨f1, p1, q1⟩ := h1.2
      obtain ⟨f2, p2, q2⟩ := h2.2
      have z1 : ∀ w, ¬ sw w < J → f1 w = 0 := by
        intro w q
        apply Classical.byContradiction
        intro z
        have := (p1.1 w z).2.2.2
        simp [q] at this
      have z2 : ∀ w, sw w ≠ J → f2 w = 0 := by
        intro w q
        apply Classical.byContradiction
        intro z
        have := (p2.1 w z).2.2.2
        simp [q] at this
      have cross : ∀ w v, f1 w ≠ 0 → f1 w ≠ f2 v := by
        intro w v hw he
        have a := p1.1 w hw
        have b := p2.1 v (by omega)
        rw [← he] at b
        have a4 := a.2.2.2
        have b4 := b.2.2.2
        simp at a4 b4
        have c1 := hs _ _ a4.1
        have c2 := hs _ _ b4.1
        omega
      refine ⟨fun w => if sw w < J then f1 w else f2 w, ⟨fun w hw => ?_, fun w v hw he => ?_⟩, ?_⟩
      · by_cases q : sw w < J
        · simp only [if_pos q] at hw ⊢
          obtain ⟨a, b, d, e⟩ := p1.1 w hw
          simp at e
          exact ⟨a, b, d, by simp [e.1]; omega⟩
        · simp only [if_neg q] at hw ⊢
          obtain ⟨a, b, d, e⟩ := p2.1 w hw
          simp at e
          exact ⟨a, b, d, by simp [e.1]; omega⟩
      · by_cases q : sw w < J
        · simp only [if_pos q] at hw he
          by_cases r : sw v < J
          · simp only [if_pos r] at he; exact p1.2 w v hw he
          · simp only [if_neg r] at he; exact absurd he (cross w v hw)
        · simp only [if_neg q] at hw he
          by_cases r : sw v < J
          · simp only [if_pos r] at he; exact absurd he.symm (cross v w (by omega))
          · simp only [if_neg r] at he; exact p2.2 w v hw he
      · have e := val_split c (fun w => if sw w < J then f1 w else f2 w) f1 f2 (fun w => by
          by_cases q : sw w < J
          · left; exact ⟨by simp [q], z2 w (by omega)⟩
          · right; exact ⟨z1 w q, by simp [q]⟩)
        rw [e, q1, q2]; rfl
