/-! how many below n; Hall -/
def cntB : Nat → (Nat → Bool) → Nat
  | 0, _ => 0
  | n + 1, p => cntB n p + (if p n then 1 else 0)
theorem cntB_ext {p q : Nat → Bool} : ∀ {n : Nat}, (∀ i, i < n → p i = q i) → cntB n p = cntB n q
  | 0, _ => rfl
  | n + 1, h => by
    show cntB n p + _ = cntB n q + _
    rw [cntB_ext (fun i hi => h i (by omega)), h n (by omega)]
theorem cntB_mono {p q : Nat → Bool} : ∀ {n : Nat}, (∀ i, i < n → p i = true → q i = true) → cntB n p ≤ cntB n q
  | 0, _ => Nat.le_refl _
  | n + 1, h => by
    show cntB n p + _ ≤ cntB n q + _
    have h1 := cntB_mono (p := p) (q := q) (n := n) (fun i hi => h i (by omega))
    have h2 := h n (by omega)
    cases hp : p n <;> cases hq : q n <;> simp_all <;> omega
theorem cntB_le (p : Nat → Bool) : ∀ n : Nat, cntB n p ≤ n
  | 0 => Nat.le_refl _
  | n + 1 => by
    have := cntB_le p n
    show cntB n p + _ ≤ n + 1
    split <;> omega
theorem cntB_orand (p q : Nat → Bool) : ∀ n : Nat, cntB n (fun i => p i || q i) + cntB n (fun i => p i && q i) = cntB n p + cntB n q
  | 0 => rfl
  | n + 1 => by
    have h := cntB_orand p q n
    show (cntB n (fun i => p i || q i) + (if (p n || q n) then 1 else 0)) + (cntB n (fun i => p i && q i) + (if (p n && q n) then 1 else 0)) = (cntB n p + (if p n then 1 else 0)) + (cntB n q + (if q n then 1 else 0))
    cases p n <;> cases q n <;> simp <;> omega
theorem cntB_back {p q : Nat → Bool} : ∀ {n : Nat}, (∀ i, i < n → p i = true → q i = true) → cntB n q ≤ cntB n p → ∀ i, i < n → q i = true → p i = true
  | 0, _, _, i, hi, _ => absurd hi (Nat.not_lt_zero _)
  | n + 1, h, hc, i, hi, hq => by
    have h1 := cntB_mono (p := p) (q := q) (n := n) (fun i hi => h i (by omega))
    have h2 := h n (by omega)
    have hc : cntB n q + (if q n then 1 else 0) ≤ cntB n p + (if p n then 1 else 0) := hc
    by_cases e : i = n
    · subst e
      cases hp : p i
      · rw [hp, hq] at hc; simp at hc; omega
      · rfl
    · refine cntB_back (n := n) (fun i hi => h i (by omega)) ?_ i (by omega) hq
      cases hp : p n <;> cases hq : q n <;> simp_all <;> omega
theorem cntB_zero {p : Nat → Bool} : ∀ {n : Nat}, cntB n p = 0 → ∀ i, i < n → p i = false
  | 0, _, i, hi => absurd hi (Nat.not_lt_zero _)
  | n + 1, h, i, hi => by
    have h : cntB n p + (if p n then 1 else 0) = 0 := h
    by_cases e : i = n
    · subst e
      cases hp : p i
      · rfl
      · rw [hp] at h; simp at h
    · exact cntB_zero (n := n) (by omega) i (by omega)
theorem cntB_none {p : Nat → Bool} : ∀ {n : Nat}, (∀ i, i < n → p i = false) → cntB n p = 0
  | 0, _ => rfl
  | n + 1, h => by
    show cntB n p + _ = 0
    rw [cntB_none (fun i hi => h i (by omega)), h n (by omega)]; rfl
theorem cntB_all {p : Nat → Bool} : ∀ {n : Nat}, (∀ i, i < n → p i = true) → cntB n p = n
  | 0, _ => rfl
  | n + 1, h => by
    show cntB n p + _ = n + 1
    rw [cntB_all (fun i hi => h i (by omega)), h n (by omega)]; rfl
def remB (X : Nat → Bool) (w : Nat) : Nat → Bool := fun v => X v && !(v == w)
theorem cntB_rem (X : Nat → Bool) (w : Nat) (hX : X w = true) : ∀ n : Nat, w < n → cntB n (remB X w) + 1 = cntB n X
  | 0, h => absurd h (Nat.not_lt_zero _)
  | n + 1, h => by
    show cntB n (remB X w) + (if remB X w n then 1 else 0) + 1 = cntB n X + (if X n then 1 else 0)
    by_cases e : w = n
    · subst e
      have e1 : remB X w w = false := by unfold remB; simp
      have e2 : cntB w (remB X w) = cntB w X := cntB_ext (fun i hi => by unfold remB; have : (i == w) = false := by simp; omega
                                                                         rw [this]; simp)
      rw [e1, e2, hX]; simp
    · have e1 : remB X w n = X n := by unfold remB; have : (n == w) = false := by simp; omega
                                       rw [this]; simp
      have := cntB_rem X w hX n (by omega)
      rw [e1]; omega
def anyB : Nat → (Nat → Bool) → Bool
  | 0, _ => false
  | n + 1, p => anyB n p || p n
theorem anyB_iff {p : Nat → Bool} : ∀ {n : Nat}, anyB n p = true ↔ ∃ i, i < n ∧ p i = true
  | 0 => ⟨fun h => (Bool.noConfusion h), fun ⟨i, hi, _⟩ => absurd hi (Nat.not_lt_zero _)⟩
  | n + 1 => by
    show (anyB n p || p n) = true ↔ _
    rw [Bool.or_eq_true, anyB_iff]
    constructor
    · rintro (⟨i, hi, h⟩ | h)
      · exact ⟨i, by omega, h⟩
      · exact ⟨n, by omega, h⟩
    · rintro ⟨i, hi, h⟩
      by_cases e : i = n
      · subst e; exact Or.inr h
      · exact Or.inl ⟨i, by omega, h⟩
/-- the units with an edge to a set -/
def nbB (W : Nat) (adj : Nat → Nat → Bool) (X : Nat → Bool) (u : Nat) : Bool := anyB W (fun w => X w && adj u w)
theorem nbB_iff {W : Nat} {adj : Nat → Nat → Bool} {X : Nat → Bool} {u : Nat} : nbB W adj X u = true ↔ ∃ w, w < W ∧ X w = true ∧ adj u w = true := by
  unfold nbB; rw [anyB_iff]
  constructor
  · rintro ⟨i, hi, h⟩; rw [Bool.and_eq_true] at h; exact ⟨i, hi, h.1, h.2⟩
  · rintro ⟨i, hi, h1, h2⟩; exact ⟨i, hi, by rw [h1, h2]; rfl⟩
/-- a set that the units below k can meet -/
def mat (W : Nat) (adj : Nat → Nat → Bool) : Nat → (Nat → Bool) → Prop
  | 0, X => ∀ w, X w = false
  | k + 1, X => mat W adj k X ∨ ∃ w, w < W ∧ X w = true ∧ adj k w = true ∧ mat W adj k (remB X w)
theorem mat_ext {W : Nat} {adj adj' : Nat → Nat → Bool} : ∀ {k : Nat} {X : Nat → Bool}, (∀ u w, u < k → w < W → adj u w = adj' u w) → mat W adj k X → mat W adj' k X
  | 0, _, _, h => h
  | k + 1, X, e, h => by
    rcases h with h | ⟨w, h1, h2, h3, h4⟩
    · exact Or.inl (mat_ext (fun u w hu hw => e u w (by omega) hw) h)
    · exact Or.inr ⟨w, h1, h2, by rw [← e k w (by omega) h1]; exact h3, mat_ext (fun u w hu hw => e u w (by omega) hw) h4⟩
theorem mat_sub {W : Nat} {adj : Nat → Nat → Bool} : ∀ {k : Nat} {X : Nat → Bool}, mat W adj k X → ∀ w, X w = true → w < W
  | 0, X, h, w, hw => by rw [h w] at hw; cases hw
  | k + 1, X, h, w, hw => by
    rcases h with h | ⟨w', h1, h2, h3, h4⟩
    · exact mat_sub h w hw
    · by_cases e : w = w'
      · subst e; exact h1
      · exact mat_sub h4 w (by unfold remB; rw [hw]; have : (w == w') = false := by simp; exact e
                               rw [this]; rfl)
theorem cnt_succ_nb (W : Nat) (adj : Nat → Nat → Bool) (X : Nat → Bool) (k : Nat) : cntB (k + 1) (nbB W adj X) = cntB k (nbB W adj X) + (if nbB W adj X k then 1 else 0) := rfl
theorem nbB_mono {W : Nat} {adj : Nat → Nat → Bool} {X Y : Nat → Bool} (h : ∀ w, X w = true → Y w = true) (u : Nat) (hu : nbB W adj X u = true) : nbB W adj Y u = true := by
  rw [nbB_iff] at hu ⊢
  obtain ⟨w, h1, h2, h3⟩ := hu
  exact ⟨w, h1, h w h2, h3⟩
/-- a set that is met has units enough -/
theorem mat_hall {W : Nat} {adj : Nat → Nat → Bool} : ∀ {k : Nat} {X : Nat → Bool}, mat W adj k X → ∀ Y : Nat → Bool, (∀ w, Y w = true → X w = true) → cntB W Y ≤ cntB k (nbB W adj Y)
  | 0, X, h, Y, hY => by
    rw [cntB_none (p := Y) (fun i _ => by cases q : Y i; · rfl
                                          · have := hY i q; rw [h i] at this; cases this)]
    exact Nat.zero_le _
  | k + 1, X, h, Y, hY => by
    rw [cnt_succ_nb]
    rcases h with h | ⟨w, h1, h2, h3, h4⟩
    · have := mat_hall h Y hY; omega
    · have hr := mat_hall h4 (remB Y w) (fun v hv => by
        unfold remB at hv ⊢
        rw [Bool.and_eq_true] at hv ⊢
        exact ⟨hY v hv.1, hv.2⟩)
      have hm := cntB_mono (n := k) (p := nbB W adj (remB Y w)) (q := nbB W adj Y) (fun i _ => nbB_mono (fun v hv => by unfold remB at hv; rw [Bool.and_eq_true] at hv; exact hv.1) i)
      cases q : Y w
      · have e : cntB W (remB Y w) = cntB W Y := cntB_ext (fun i _ => by
          unfold remB
          by_cases e : i = w
          · subst e; rw [q]; rfl
          · have : (i == w) = false := by simp; exact e
            rw [this]; simp)
        omega
      · have e := cntB_rem Y w q W h1
        have n1 : nbB W adj Y k = true := nbB_iff.mpr ⟨w, h1, q, h3⟩
        rw [n1]; simp; omega
theorem least_one (P : (Nat → Bool) → Prop) (f : (Nat → Bool) → Nat) : ∀ (n : Nat) (S : Nat → Bool), f S ≤ n → P S → ∃ S0, P S0 ∧ ∀ S, P S → f S0 ≤ f S
  | 0, S, hn, h => ⟨S, h, fun S' _ => by omega⟩
  | n + 1, S, hn, h => by
    by_cases q : ∃ S', P S' ∧ f S' ≤ n
    · obtain ⟨S', h1, h2⟩ := q
      exact least_one P f n S' h2 h1
    · refine ⟨S, h, fun S' h' => ?_⟩
      by_cases z : f S' ≤ n
      · exact absurd ⟨S', h', z⟩ q
      · omega
theorem hall {W : Nat} {adj : Nat → Nat → Bool} : ∀ {k : Nat} {X : Nat → Bool}, (∀ w, X w = true → w < W) → (∀ Y : Nat → Bool, (∀ w, Y w = true → X w = true) → cntB W Y ≤ cntB k (nbB W adj Y)) → mat W adj k X
  | 0, X, hX, h => fun w => by
    have h0 := cntB_zero (p := X) (n := W) (by have := h X (fun _ q => q); exact Nat.le_zero.mp this)
    cases q : X w
    · rfl
    · have := h0 w (hX w q); rw [q] at this; cases this
  | k + 1, X, hX, h => by
    by_cases q : ∀ Y : Nat → Bool, (∀ w, Y w = true → X w = true) → cntB W Y ≤ cntB k (nbB W adj Y)
    · exact Or.inl (hall hX q)
    · have q' : ∃ Y : Nat → Bool, (∀ w, Y w = true → X w = true) ∧ cntB k (nbB W adj Y) < cntB W Y := by
        apply Classical.byContradiction
        intro c
        apply q
        intro Y hY
        apply Classical.byContradiction
        intro c2
        exact c ⟨Y, hY, by omega⟩
      obtain ⟨Y, hY1, hY2⟩ := q'
      obtain ⟨S, ⟨hS1, hS2⟩, hmin⟩ := least_one (fun Y => (∀ w, Y w = true → X w = true) ∧ cntB k (nbB W adj Y) < cntB W Y) (cntB W) _ Y (Nat.le_refl _) ⟨hY1, hY2⟩
      have hS3 := h S hS1
      rw [cnt_succ_nb] at hS3
      have hk : nbB W adj S k = true := by
        cases z : nbB W adj S k
        · rw [z] at hS3; simp at hS3; omega
        · rfl
      obtain ⟨w, w1, w2, w3⟩ := nbB_iff.mp hk
      refine Or.inr ⟨w, w1, hS1 w w2, w3, hall (fun v hv => hX v (by unfold remB at hv; rw [Bool.and_eq_true] at hv; exact hv.1)) ?_⟩
      intro Y hY
      apply Classical.byContradiction
      intro c
      have hYX : ∀ v, Y v = true → X v = true := fun v hv => by have := hY v hv; unfold remB at this; rw [Bool.and_eq_true] at this; exact this.1
      have hYw : Y w = false := by
        cases z : Y w
        · rfl
        · have := hY w z; unfold remB at this; simp at this
      -- union and section
      have u1 := h (fun i => Y i || S i) (fun v hv => by
        rw [Bool.or_eq_true] at hv
        rcases hv with hv | hv
        · exact hYX v hv
        · exact hS1 v hv)
      rw [cnt_succ_nb] at u1
      have oa := cntB_orand Y S W
      have on := cntB_orand (nbB W adj Y) (nbB W adj S) k
      have m1 : cntB k (nbB W adj (fun i => Y i || S i)) ≤ cntB k (fun i => nbB W adj Y i || nbB W adj S i) := cntB_mono (fun i _ hi => by
        rw [nbB_iff] at hi
        obtain ⟨v, v1, v2, v3⟩ := hi
        rw [Bool.or_eq_true] at v2 ⊢
        rcases v2 with v2 | v2
        · exact Or.inl (nbB_iff.mpr ⟨v, v1, v2, v3⟩)
        · exact Or.inr (nbB_iff.mpr ⟨v, v1, v2, v3⟩))
      have m2 : cntB k (nbB W adj (fun i => Y i && S i)) ≤ cntB k (fun i => nbB W adj Y i && nbB W adj S i) := cntB_mono (fun i _ hi => by
        rw [nbB_iff] at hi
        obtain ⟨v, v1, v2, v3⟩ := hi
        rw [Bool.and_eq_true] at v2 ⊢
        exact ⟨nbB_iff.mpr ⟨v, v1, v2.1, v3⟩, nbB_iff.mpr ⟨v, v1, v2.2, v3⟩⟩)
      have b1 : (if nbB W adj (fun i => Y i || S i) k then 1 else 0) ≤ 1 := by split <;> omega
      have ht := hmin (fun i => Y i && S i) ⟨fun v hv => by rw [Bool.and_eq_true] at hv; exact hYX v hv.1, by omega⟩
      have := cntB_back (p := fun i => Y i && S i) (q := S) (n := W) (fun i _ hi => by rw [Bool.and_eq_true] at hi; exact hi.2) ht w w1 w2
      rw [hYw] at this
      cases this
/-- with d units more that know all, and then without them -/
theorem mat_less {W : Nat} {adj : Nat → Nat → Bool} {k : Nat} : ∀ (j : Nat) (X : Nat → Bool), mat W adj (k + j) X → ∃ X', (∀ w, X' w = true → X w = true) ∧ cntB W X ≤ cntB W X' + j ∧ mat W adj k X'
  | 0, X, h => ⟨X, fun _ q => q, by omega, h⟩
  | j + 1, X, h => by
    rcases h with h | ⟨w, h1, h2, h3, h4⟩
    · obtain ⟨X', a, b, c⟩ := mat_less j X h
      exact ⟨X', a, by omega, c⟩
    · obtain ⟨X', a, b, c⟩ := mat_less j _ h4
      have := cntB_rem X w h2 W h1
      exact ⟨X', fun v hv => by have := a v hv; unfold remB at this; rw [Bool.and_eq_true] at this; exact this.1, by omega, c⟩
theorem cntB_add (p : Nat → Bool) (k : Nat) : ∀ d : Nat, cntB (k + d) p = cntB k p + cntB d (fun i => p (k + i))
  | 0 => rfl
  | d + 1 => by
    show cntB (k + d) p + (if p (k + d) then 1 else 0) = cntB k p + (cntB d (fun i => p (k + i)) + (if p (k + d) then 1 else 0))
    rw [cntB_add p k d]; omega
theorem hall_lack {W : Nat} {adj : Nat → Nat → Bool} {k : Nat} {X : Nat → Bool} (d : Nat) (hX : ∀ w, X w = true → w < W) (h : ∀ Y : Nat → Bool, (∀ w, Y w = true → X w = true) → cntB W Y ≤ cntB k (nbB W adj Y) + d) : ∃ X', (∀ w, X' w = true → X w = true) ∧ cntB W X ≤ cntB W X' + d ∧ mat W adj k X' := by
  have h1 : mat W (fun u w => if u < k then adj u w else true) (k + d) X := by
    refine hall hX ?_
    intro Y hY
    have h2 := h Y hY
    rw [cntB_add]
    have e1 : cntB k (nbB W (fun u w => if u < k then adj u w else true) Y) = cntB k (nbB W adj Y) := cntB_ext (fun i hi => by
      unfold nbB; simp only [if_pos hi])
    by_cases z : cntB W Y = 0
    · omega
    · have e2 : cntB d (fun i => nbB W (fun u w => if u < k then adj u w else true) Y (k + i)) = d := cntB_all (fun i hi => by
        apply Classical.byContradiction
        intro c
        apply z
        apply cntB_none
        intro w hw
        cases q : Y w
        · rfl
        · exfalso; apply c; exact nbB_iff.mpr ⟨w, hw, q, by rw [if_neg (by omega)]⟩)
      omega
  obtain ⟨X', a, b, c⟩ := mat_less d X h1
  exact ⟨X', a, b, mat_ext (fun u w hu hw => by show (if u < k then adj u w else true) = _; rw [if_pos hu]) c⟩
