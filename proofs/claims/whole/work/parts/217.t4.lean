/-! ways: rows of hands (the latest first), in their order; the least key -/
abbrev Tm : Type := (Nat) × (Nat) × (Nat) × (Nat → Nat → Bool) × (Nat → Nat → Nat) × (Nat → Nat → Nat) × (Nat → Nat) × (Nat → Bool) × (Nat → Nat)
abbrev Tm.n (h_ : Tm) : Nat := h_.1
abbrev Tm.back (h_ : Tm) : Nat := h_.2.1
abbrev Tm.P (h_ : Tm) : Nat := h_.2.2.1
abbrev Tm.gv (h_ : Tm) : Nat → Nat → Bool := h_.2.2.2.1
abbrev Tm.pn (h_ : Tm) : Nat → Nat → Nat := h_.2.2.2.2.1
abbrev Tm.hr (h_ : Tm) : Nat → Nat → Nat := h_.2.2.2.2.2.1
abbrev Tm.ak (h_ : Tm) : Nat → Nat := h_.2.2.2.2.2.2.1
abbrev Tm.ha (h_ : Tm) : Nat → Bool := h_.2.2.2.2.2.2.2.1
abbrev Tm.tw (h_ : Tm) : Nat → Nat := h_.2.2.2.2.2.2.2.2
def okB (T : Tm) (fi : Nat → Bool) (pre : List Nat) (q : Nat) : Bool := T.ha q && (match pre with
  | [] => fi q
  | p :: _ => T.gv p q && (if T.back = 1 then (!(pre.contains q) || fi q) else if T.back = 2 then (!(pre.contains q) && !(fi q)) else if T.back = 3 then !(pre.any (fun x => T.tw x == T.tw q)) else true))
def hoL (T : Tm) : List Nat → Nat
  | [] => 0
  | q :: pre => match pre with
    | [] => 0
    | p :: _ => hoL T pre + T.hr p q
def paL (T : Tm) : List Nat → Nat
  | [] => 0
  | q :: pre => match pre with
    | [] => 0
    | p :: _ => paL T pre + T.pn p q
def asL (T : Tm) : List Nat → Nat
  | [] => 0
  | q :: pre => match pre with
    | [] => 0
    | _ :: _ => asL T pre + (if pre.length < T.n - 1 then T.ak q else 0)
def pthL : List Nat → Nat
  | [] => 0
  | q :: pre => pthL pre * 8 + q
def coL (T : Tm) (r : List Nat) : Nat := paL T r + asL T r
def keyL (T : Tm) (r : List Nat) : Int := (coL T r : Int) * 16777216 + (hoL T r : Int) * 262144 + (pthL r : Int)
/-- one after the other, m of them from q on -/
def sib (f : Nat → List (List Nat)) : Nat → Nat → List (List Nat)
  | 0, _ => []
  | m + 1, q => f q ++ sib f m (q + 1)
def ext (T : Tm) (fi : Nat → Bool) : Nat → List Nat → List (List Nat)
  | 0, pre => [pre]
  | j + 1, pre => sib (fun q => if okB T fi pre q then ext T fi j (q :: pre) else []) T.P 0
def rowsL (T : Tm) (fi : Nat → Bool) : List (List Nat) := ext T fi T.n []
theorem mem_sib {f : Nat → List (List Nat)} {r : List Nat} : ∀ {m q : Nat}, r ∈ sib f m q ↔ ∃ p, q ≤ p ∧ p < q + m ∧ r ∈ f p
  | 0, q => by
    show r ∈ [] ↔ _
    constructor
    · intro h; cases h
    · rintro ⟨p, a, b, _⟩; omega
  | m + 1, q => by
    show r ∈ f q ++ sib f m (q + 1) ↔ _
    rw [List.mem_append, mem_sib]
    constructor
    · rintro (h | ⟨p, a, b, c⟩)
      · exact ⟨q, by omega, by omega, h⟩
      · exact ⟨p, by omega, by omega, c⟩
    · rintro ⟨p, a, b, c⟩
      by_cases e : p = q
      · subst e; exact Or.inl c
      · exact Or.inr ⟨p, by omega, by omega, c⟩
theorem ext_succ (T : Tm) (fi : Nat → Bool) (j : Nat) (pre : List Nat) : ext T fi (j + 1) pre = sib (fun q => if okB T fi pre q then ext T fi j (q :: pre) else []) T.P 0 := rfl
theorem mem_ext {T : Tm} {fi : Nat → Bool} : ∀ {j : Nat} {pre r : List Nat}, r ∈ ext T fi j pre → ∃ t : List Nat, r = t ++ pre ∧ t.length = j ∧ ∀ x, x ∈ t → x < T.P
  | 0, pre, r, h => ⟨[], by have h : r ∈ [pre] := h
                            rw [List.mem_singleton] at h; rw [h]; rfl, rfl, fun x hx => by cases hx⟩
  | j + 1, pre, r, h => by
    rw [ext_succ, mem_sib] at h
    obtain ⟨q, _, h1, h2⟩ := h
    by_cases z : okB T fi pre q = true
    · rw [if_pos z] at h2
      obtain ⟨t, e1, e2, e3⟩ := mem_ext h2
      refine ⟨t ++ [q], by rw [e1]; simp, by simp; omega, fun x hx => ?_⟩
      rw [List.mem_append] at hx
      rcases hx with hx | hx
      · exact e3 x hx
      · rw [List.mem_singleton] at hx; rw [hx]; omega
    · rw [if_neg z] at h2; cases h2
theorem pth_ext {T : Tm} (hP : T.P ≤ 8) {fi : Nat → Bool} : ∀ {j : Nat} {pre r : List Nat}, r ∈ ext T fi j pre → pthL pre * 8 ^ j ≤ pthL r ∧ pthL r < (pthL pre + 1) * 8 ^ j
  | 0, pre, r, h => by
    have h : r ∈ [pre] := h
    rw [List.mem_singleton] at h
    rw [h, Nat.pow_zero]; omega
  | j + 1, pre, r, h => by
    rw [ext_succ, mem_sib] at h
    obtain ⟨q, _, h1, h2⟩ := h
    by_cases z : okB T fi pre q = true
    · rw [if_pos z] at h2
      have h3 := pth_ext hP h2
      have e : pthL (q :: pre) = pthL pre * 8 + q := rfl
      rw [e] at h3
      have e2 : (pthL pre * 8 + q) * 8 ^ j = pthL pre * 8 ^ (j + 1) + q * 8 ^ j := by rw [Nat.pow_succ, Nat.add_mul, Nat.mul_comm (8 ^ j) 8, Nat.mul_assoc]
      have e3 : (pthL pre * 8 + q + 1) * 8 ^ j = pthL pre * 8 ^ (j + 1) + (q + 1) * 8 ^ j := by rw [Nat.pow_succ, Nat.add_assoc, Nat.add_mul, Nat.mul_comm (8 ^ j) 8, Nat.mul_assoc]
      have e4 : (pthL pre + 1) * 8 ^ (j + 1) = pthL pre * 8 ^ (j + 1) + 8 * 8 ^ j := by rw [Nat.add_mul, Nat.one_mul, Nat.pow_succ, Nat.mul_comm (8 ^ j) 8]
      have e5 : (q + 1) * 8 ^ j ≤ 8 * 8 ^ j := Nat.mul_le_mul_right _ (by omega)
      rw [e2, e3] at h3
      rw [e4]
      have e6 : 0 ≤ q * 8 ^ j := Nat.zero_le _
      omega
    · rw [if_neg z] at h2; cases h2
/-- the order of the list is the order of paths -/
theorem sib_pw {T : Tm} (hP : T.P ≤ 8) {fi : Nat → Bool} {j : Nat} {pre : List Nat} (hj : ∀ q, List.Pairwise (fun a b => pthL a < pthL b) (ext T fi j (q :: pre))) : ∀ (m q : Nat), q + m ≤ T.P → List.Pairwise (fun a b => pthL a < pthL b) (sib (fun q => if okB T fi pre q then ext T fi j (q :: pre) else []) m q)
  | 0, q, _ => List.Pairwise.nil
  | m + 1, q, hm => by
    show List.Pairwise _ ((if okB T fi pre q then ext T fi j (q :: pre) else []) ++ sib (fun q => if okB T fi pre q then ext T fi j (q :: pre) else []) m (q + 1))
    rw [List.pairwise_append]
    refine ⟨?_, sib_pw hP hj m (q + 1) (by omega), ?_⟩
    · by_cases z : okB T fi pre q = true
      · rw [if_pos z]; exact hj q
      · rw [if_neg z]; exact List.Pairwise.nil
    · intro a ha b hb
      by_cases z : okB T fi pre q = true
      · rw [if_pos z] at ha
        have h1 := (pth_ext hP ha).2
        rw [mem_sib] at hb
        obtain ⟨p, p1, p2, p3⟩ := hb
        by_cases z2 : okB T fi pre p = true
        · rw [if_pos z2] at p3
          have h2 := (pth_ext hP p3).1
          have e1 : pthL (q :: pre) + 1 ≤ pthL (p :: pre) := by
            show pthL pre * 8 + q + 1 ≤ pthL pre * 8 + p
            omega
          have e2 := Nat.mul_le_mul_right (8 ^ j) e1
          omega
        · rw [if_neg z2] at p3; cases p3
      · rw [if_neg z] at ha; cases ha
theorem ext_pw {T : Tm} (hP : T.P ≤ 8) {fi : Nat → Bool} : ∀ (j : Nat) (pre : List Nat), List.Pairwise (fun a b => pthL a < pthL b) (ext T fi j pre)
  | 0, pre => by
    show List.Pairwise _ [pre]
    exact List.pairwise_singleton _ _
  | j + 1, pre => by
    rw [ext_succ]
    exact sib_pw hP (fun q => ext_pw hP j (q :: pre)) T.P 0 (by omega)
/-- hours and costs only grow along a row -/
theorem hoL_cons (T : Tm) (q : Nat) (pre : List Nat) : hoL T pre ≤ hoL T (q :: pre) := by
  cases pre with
  | nil => exact Nat.zero_le _
  | cons p t => show hoL T (p :: t) ≤ hoL T (p :: t) + T.hr p q; omega
theorem hoL_app (T : Tm) (pre : List Nat) : ∀ t : List Nat, hoL T pre ≤ hoL T (t ++ pre)
  | [] => Nat.le_refl _
  | q :: t => Nat.le_trans (hoL_app T pre t) (hoL_cons T q (t ++ pre))
theorem hoL_bd {T : Tm} (h : ∀ p q, T.hr p q ≤ 9) : ∀ r : List Nat, hoL T r ≤ 9 * (r.length - 1)
  | [] => Nat.le_refl _
  | [_] => Nat.le_refl _
  | q :: p :: t => by
    have h1 := hoL_bd h (p :: t)
    have h2 := h p q
    show hoL T (p :: t) + T.hr p q ≤ _
    simp only [List.length_cons] at h1 ⊢
    omega
theorem paL_bd {T : Tm} (h : ∀ p q, T.pn p q ≤ 99) : ∀ r : List Nat, paL T r ≤ 99 * (r.length - 1)
  | [] => Nat.le_refl _
  | [_] => Nat.le_refl _
  | q :: p :: t => by
    have h1 := paL_bd h (p :: t)
    have h2 := h p q
    show paL T (p :: t) + T.pn p q ≤ _
    simp only [List.length_cons] at h1 ⊢
    omega
theorem asL_bd {T : Tm} (h : ∀ q, T.ak q ≤ 99) : ∀ r : List Nat, asL T r ≤ 99 * (r.length - 1)
  | [] => Nat.le_refl _
  | [_] => Nat.le_refl _
  | q :: p :: t => by
    have h1 := asL_bd h (p :: t)
    have h2 := h q
    show asL T (p :: t) + (if (p :: t).length < T.n - 1 then T.ak q else 0) ≤ _
    simp only [List.length_cons] at h1 ⊢
    split <;> omega
theorem pthL_bd : ∀ (r : List Nat), (∀ x, x ∈ r → x < 8) → pthL r < 8 ^ r.length
  | [], _ => by show 0 < 1; omega
  | q :: t, h => by
    have h1 := pthL_bd t (fun x hx => h x (List.mem_cons_of_mem _ hx))
    have h2 := h q (List.mem_cons_self ..)
    show pthL t * 8 + q < 8 ^ (t.length + 1)
    rw [Nat.pow_succ]; omega
def NOW : Int := 9223372036854775807
/-- m is the least key of those rows that hit; NOW: none does -/
def LeastK (L : List (List Nat)) (hit : List Nat → Bool) (key : List Nat → Int) (m : Int) : Prop := (∀ r, r ∈ L → hit r = true → m ≤ key r) ∧ ((m = NOW ∧ ∀ r, r ∈ L → hit r = false) ∨ ∃ r, r ∈ L ∧ hit r = true ∧ m = key r)
theorem LeastK.uniq {L : List (List Nat)} {hit : List Nat → Bool} {key : List Nat → Int} {m m' : Int} (h : LeastK L hit key m) (h' : LeastK L hit key m') : m = m' := by
  rcases h.2 with ⟨a, b⟩ | ⟨r, a, b, c⟩
  · rcases h'.2 with ⟨a', _⟩ | ⟨r, a', b', c'⟩
    · rw [a, a']
    · rw [b r a'] at b'; cases b'
  · rcases h'.2 with ⟨a', b'⟩ | ⟨r', a', b', c'⟩
    · rw [b' r a] at b; cases b
    · have := h.1 r' a' b'
      have := h'.1 r a b
      omega
/-- the first of the least cost, of like ones of the least hours -/
def betterB (T : Tm) (r : List Nat) : Option (List Nat) → Bool
  | none => true
  | some b => decide (coL T r < coL T b) || (coL T r == coL T b && decide (hoL T r < hoL T b))
def bestF (T : Tm) (hit : List Nat → Bool) : List (List Nat) → Option (List Nat) → Option (List Nat)
  | [], c => c
  | r :: L, c => bestF T hit L (if hit r && betterB T r c then some r else c)
theorem bestF_least {T : Tm} {hit : List Nat → Bool} : ∀ (L L0 : List (List Nat)) (c : Option (List Nat)), List.Pairwise (fun a b => pthL a < pthL b) (L0 ++ L) → (∀ r, r ∈ L0 ++ L → hit r = true → hoL T r < 64 ∧ pthL r < 262144) →
    (match c with | none => ∀ r, r ∈ L0 → hit r = false | some b => b ∈ L0 ∧ hit b = true ∧ ∀ r, r ∈ L0 → hit r = true → keyL T b ≤ keyL T r) →
    (match bestF T hit L c with | none => ∀ r, r ∈ L0 ++ L → hit r = false | some b => b ∈ L0 ++ L ∧ hit b = true ∧ ∀ r, r ∈ L0 ++ L → hit r = true → keyL T b ≤ keyL T r)
  | [], L0, c, _, _, h => by rw [List.append_nil]; exact h
  | r :: L, L0, c, hp, hb, h => by
    have e : L0 ++ r :: L = (L0 ++ [r]) ++ L := by simp
    have hp' := hp
    rw [e] at hp' hb
    have hr : ∀ a, a ∈ L0 → pthL a < pthL r := by
      rw [List.pairwise_append] at hp
      intro a ha
      exact hp.2.2 a ha r (List.mem_cons_self ..)
    have g := bestF_least (T := T) (hit := hit) L (L0 ++ [r]) (if hit r && betterB T r c then some r else c) hp' hb ?_
    · rw [e]; exact g
    · by_cases z : (hit r && betterB T r c) = true
      · rw [if_pos z]
        rw [Bool.and_eq_true] at z
        refine ⟨by simp, z.1, fun a ha hh => ?_⟩
        rw [List.mem_append] at ha
        rcases ha with ha | ha
        · cases c with
          | none => have h := h a ha; rw [h] at hh; cases hh
          | some b =>
            obtain ⟨h1, h2, h3⟩ := h
            have h4 := h3 a ha hh
            have h5 := z.2
            unfold betterB at h5
            simp only [Bool.or_eq_true, decide_eq_true_eq, Bool.and_eq_true, beq_iff_eq] at h5
            have b1 := hb b (by simp [h1]) h2
            have b2 := hb r (by simp) z.1
            unfold keyL at h4 ⊢
            rcases h5 with h5 | ⟨h5, h6⟩
            · omega
            · rw [h5]; omega
        · rw [List.mem_singleton] at ha
          rw [ha]; exact Int.le_refl _
      · rw [if_neg z]
        cases c with
        | none =>
          intro a ha
          rw [List.mem_append] at ha
          rcases ha with ha | ha
          · exact h a ha
          · rw [List.mem_singleton] at ha
            rw [ha]
            cases q : hit r
            · rfl
            · exfalso; apply z; rw [q]; rfl
        | some b =>
          obtain ⟨h1, h2, h3⟩ := h
          refine ⟨by simp [h1], h2, fun a ha hh => ?_⟩
          rw [List.mem_append] at ha
          rcases ha with ha | ha
          · exact h3 a ha hh
          · rw [List.mem_singleton] at ha
            rw [ha] at hh ⊢
            have h5 : betterB T r (some b) = false := by
              cases q : betterB T r (some b)
              · rfl
              · exfalso; apply z; rw [hh, q]; rfl
            unfold betterB at h5
            simp only [Bool.or_eq_false_iff, decide_eq_false_iff_not, Bool.and_eq_false_iff, beq_eq_false_iff_ne] at h5
            have b1 := hb b (by simp [h1]) h2
            have b2 := hb r (by simp) hh
            have b3 := hr b h1
            unfold keyL
            rcases h5.2 with h6 | h6 <;> omega
/-- the way taken, and its key -/
def bestR (T : Tm) (fi : Nat → Bool) (hit : List Nat → Bool) : Option (List Nat) := bestF T hit (rowsL T fi) none
theorem bestR_least {T : Tm} (hP : T.P ≤ 8) {fi : Nat → Bool} {hit : List Nat → Bool} (hb : ∀ r, r ∈ rowsL T fi → hit r = true → hoL T r < 64 ∧ pthL r < 262144) :
    match bestR T fi hit with
    | none => ∀ r, r ∈ rowsL T fi → hit r = false
    | some b => b ∈ rowsL T fi ∧ hit b = true ∧ ∀ r, r ∈ rowsL T fi → hit r = true → keyL T b ≤ keyL T r := by
  have h := bestF_least (T := T) (hit := hit) (rowsL T fi) [] none (by rw [List.nil_append]; exact ext_pw hP T.n []) (fun r hr => hb r (by simpa using hr)) (fun r hr => by cases hr)
  simp only [List.nil_append] at h
  exact h
def keyO (T : Tm) : Option (List Nat) → Int
  | none => NOW
  | some b => keyL T b
theorem bestR_leastK {T : Tm} (hP : T.P ≤ 8) {fi : Nat → Bool} {hit : List Nat → Bool} (hb : ∀ r, r ∈ rowsL T fi → hit r = true → hoL T r < 64 ∧ pthL r < 262144) : LeastK (rowsL T fi) hit (keyL T) (keyO T (bestR T fi hit)) := by
  have h := bestR_least hP hb
  generalize bestR T fi hit = o at h
  cases o with
  | none => exact ⟨fun r hr hh => absurd hh (by rw [h r hr]; simp), Or.inl ⟨rfl, h⟩⟩
  | some b => exact ⟨h.2.2, Or.inr ⟨b, h.1, h.2.1, rfl⟩⟩
