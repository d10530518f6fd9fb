/-- rows by their first hand -/
theorem accC_sib2 {hit : List Nat → Bool} {f : Nat → List (List Nat)} (a b : Nat) (hab : a ≠ b) : ∀ (m q : Nat), (∀ x, q ≤ x → x < q + m → x ≠ a → x ≠ b → f x = []) → accC hit (sib f m q) = (if q ≤ a ∧ a < q + m then accC hit (f a) else 0) + (if q ≤ b ∧ b < q + m then accC hit (f b) else 0)
  | 0, q, _ => by
    rw [if_neg (by omega), if_neg (by omega)]; rfl
  | m + 1, q, h => by
    show accC hit (f q ++ sib f m (q + 1)) = _
    rw [accC_app, accC_sib2 a b hab m (q + 1) (fun x h1 h2 => h x (by omega) (by omega))]
    by_cases ea : q = a
    · subst ea
      rw [if_neg (by omega : ¬ (q + 1 ≤ q ∧ q < q + 1 + m)), if_pos (by omega : q ≤ q ∧ q < q + (m + 1))]
      by_cases eb : q + 1 ≤ b ∧ b < q + 1 + m
      · rw [if_pos eb, if_pos (by omega)]; omega
      · rw [if_neg eb, if_neg (by omega)]
    · by_cases eb : q = b
      · subst eb
        rw [if_neg (by omega : ¬ (q + 1 ≤ q ∧ q < q + 1 + m)), if_pos (by omega : q ≤ q ∧ q < q + (m + 1))]
        by_cases e2 : q + 1 ≤ a ∧ a < q + 1 + m
        · rw [if_pos e2, if_pos (by omega)]; omega
        · rw [if_neg e2, if_neg (by omega)]; omega
      · rw [h q (Nat.le_refl _) (by omega) ea eb]
        have z : accC hit ([] : List (List Nat)) = 0 := rfl
        rw [z]
        by_cases e1 : q + 1 ≤ a ∧ a < q + 1 + m <;> by_cases e2 : q + 1 ≤ b ∧ b < q + 1 + m
        · rw [if_pos e1, if_pos e2, if_pos (by omega), if_pos (by omega)]; omega
        · rw [if_pos e1, if_neg e2, if_pos (by omega), if_neg (by omega)]; omega
        · rw [if_neg e1, if_pos e2, if_neg (by omega), if_pos (by omega)]; omega
        · rw [if_neg e1, if_neg e2, if_neg (by omega), if_neg (by omega)]
/-- the least hours of those that hit -/
theorem accL_least {hit : List Nat → Bool} {ho : List Nat → Int} : ∀ (A L0 : List (List Nat)) (c l : Int), (0 ≤ c) → (c = 0 → ∀ r, r ∈ L0 → hit r = false) → (c ≠ 0 → (∃ r, r ∈ L0 ∧ hit r = true ∧ l = ho r) ∧ ∀ r, r ∈ L0 → hit r = true → l ≤ ho r) → (c + accC hit A ≠ 0 → (∃ r, r ∈ L0 ++ A ∧ hit r = true ∧ accL hit ho A c l = ho r) ∧ ∀ r, r ∈ L0 ++ A → hit r = true → accL hit ho A c l ≤ ho r)
  | [], L0, c, l, h0, h1, h2 => by
    intro z
    rw [List.append_nil]
    exact h2 (by have : accC hit ([] : List (List Nat)) = 0 := rfl; omega)
  | r :: A, L0, c, l, h0, h1, h2 => by
    intro z
    have e : L0 ++ r :: A = (L0 ++ [r]) ++ A := by simp
    rw [e]
    have ec : accC hit (r :: A) = (if hit r then 1 else 0) + accC hit A := rfl
    have el : accL hit ho (r :: A) c l = if hit r then accL hit ho A (c + 1) (if c = 0 then ho r else min l (ho r)) else accL hit ho A c l := rfl
    rw [ec] at z
    rw [el]
    by_cases y : hit r = true
    · rw [if_pos y]
      rw [if_pos y] at z
      refine accL_least A (L0 ++ [r]) (c + 1) _ (by omega) (fun q => by omega) (fun _ => ?_) (by omega)
      by_cases c0 : c = 0
      · rw [if_pos c0]
        refine ⟨⟨r, by simp, y, rfl⟩, fun x hx hh => ?_⟩
        rw [List.mem_append, List.mem_singleton] at hx
        rcases hx with hx | hx
        · rw [h1 c0 x hx] at hh; cases hh
        · rw [hx]; exact Int.le_refl _
      · rw [if_neg c0]
        obtain ⟨⟨b, b1, b2, b3⟩, b4⟩ := h2 c0
        refine ⟨?_, fun x hx hh => ?_⟩
        · by_cases m : l ≤ ho r
          · exact ⟨b, by simp [b1], b2, by omega⟩
          · exact ⟨r, by simp, y, by omega⟩
        · rw [List.mem_append, List.mem_singleton] at hx
          rcases hx with hx | hx
          · have := b4 x hx hh; omega
          · rw [hx]; omega
    · have y : hit r = false := by cases q : hit r
                                   · rfl
                                   · exact absurd q y
      rw [y]
      rw [y] at z
      refine accL_least A (L0 ++ [r]) c l h0 (fun q x hx => ?_) (fun q => ?_) (by simpa using z)
      · rw [List.mem_append, List.mem_singleton] at hx
        rcases hx with hx | hx
        · exact h1 q x hx
        · rw [hx]; exact y
      · obtain ⟨⟨b, b1, b2, b3⟩, b4⟩ := h2 q
        refine ⟨⟨b, by simp [b1], b2, b3⟩, fun x hx hh => ?_⟩
        rw [List.mem_append, List.mem_singleton] at hx
        rcases hx with hx | hx
        · exact b4 x hx hh
        · rw [hx, y] at hh; cases hh
def rowsO (T : Tm) (s : Nat → Int) (u : Nat) : List (List Nat) := if allF T s u then rowsL T (fiR s u) else []
/-- what the walk of one unit tells -/
def WalkU (T : Tm) (wt : Int) (s : Nat → Int) (u W : Nat) (f98 f100 f101 : Nat → Int) : Prop :=
  (∀ v k, v < W → k < 3 → LeastK (rowsO T s u) (fun r => hitS T s u v r && (min (tmW T.n wt r) 2 == k)) (keyL T) (f98 ((8 * u + v) * 3 + k))) ∧ (∀ v, v < W → f100 v = accC (hitS T s u v) (rowsO T s u)) ∧ (∀ v, v < W → f100 v ≠ 0 → (∃ r, r ∈ rowsO T s u ∧ hitS T s u v r = true ∧ f101 v = (hoL T r : Nat)) ∧ ∀ r, r ∈ rowsO T s u → hitS T s u v r = true → f101 v ≤ (hoL T r : Nat))
theorem keyL_now {T : Tm} {r : List Nat} (h1 : coL T r ≤ 5000) (h2 : hoL T r < 64) (h3 : pthL r < 262144) : keyL T r < NOW := by
  unfold keyL NOW; omega
theorem row_bd {T : Tm} (hr9 : ∀ p q, T.hr p q ≤ 9) (pn9 : ∀ p q, T.pn p q ≤ 99) (ak9 : ∀ q, T.ak q ≤ 99) (hP : T.P ≤ 8) (hn : T.n ≤ 6) {r : List Nat} (hl : r.length = T.n) (h8 : ∀ x, x ∈ r → x < T.P) : coL T r ≤ 5000 ∧ hoL T r < 64 ∧ pthL r < 262144 := by
  have b1 := hoL_bd hr9 r
  have b2 := paL_bd pn9 r
  have b3 := asL_bd ak9 r
  have b4 := pthL_bd r (fun x hx => by have := h8 x hx; omega)
  have p8 := Nat.pow_le_pow_right (n := 8) (by omega) (show r.length ≤ 6 by omega)
  rw [show (8 : Nat) ^ 6 = 262144 from rfl] at p8
  exact ⟨by unfold coL; omega, by omega, by omega⟩
theorem rows_mem {T : Tm} {fi : Nat → Bool} {r : List Nat} (h : r ∈ rowsL T fi) : r.length = T.n ∧ ∀ x, x ∈ r → x < T.P := by
  obtain ⟨t, e, l, hx⟩ := mem_ext h
  rw [List.append_nil] at e
  subst e
  exact ⟨l, hx⟩
/-- both halves of a unit's rows together -/
theorem walk_join {T : Tm} {wt : Int} {s : Nat → Int} {u W : Nat} (hP : T.P ≤ 8) (hn2 : 2 ≤ T.n) (hn : T.n ≤ 6) (hr9 : ∀ p q, T.hr p q ≤ 9) (pn9 : ∀ p q, T.pn p q ≤ 99) (ak9 : ∀ q, T.ak q ≤ 99) (m : Nat) (hm : s (31 + 5 * u) = m) (hmP : m < T.P) (B : List (List Nat)) (hB : (s (32 + 5 * u) = -1 ∧ B = []) ∨ ∃ p : Nat, s (32 + 5 * u) = p ∧ p < T.P ∧ p ≠ m ∧ B = ext T (fiR s u) (T.n - 1) [p]) (hall : allF T s u = true) {f98 f100 f101 g98 g100 g101 : Nat → Int} (f0 : ∀ v k, v < W → k < 3 → f98 ((8 * u + v) * 3 + k) = NOW) (f1 : ∀ v, v < W → f100 v = 0) (hA : AccW u W (hitS T s u) T wt (ext T (fiR s u) (T.n - 1) [m] ++ B) f98 f100 f101 g98 g100 g101) : WalkU T wt s u W g98 g100 g101 := by
  have hro : rowsO T s u = rowsL T (fiR s u) := by unfold rowsO; rw [hall]; rfl
  have eR : rowsL T (fiR s u) = sib (fun q => if okB T (fiR s u) [] q then ext T (fiR s u) (T.n - 1) [q] else []) T.P 0 := by
    unfold rowsL
    rw [show T.n = (T.n - 1) + 1 by omega, ext_succ, show T.n - 1 + 1 - 1 = T.n - 1 by omega]
  have fm : fiR s u m = true := by unfold fiR; rw [hm]; simp
  have hal := hall
  unfold allF at hal
  rw [Bool.and_eq_true, hm, Int.toNat_natCast] at hal
  have okm : okB T (fiR s u) [] m = true := by unfold okB; rw [hal.1, fm]; rfl
  -- members
  have mem : ∀ r, r ∈ rowsL T (fiR s u) ↔ r ∈ ext T (fiR s u) (T.n - 1) [m] ++ B := by
    intro r
    rw [eR, mem_sib, List.mem_append]
    constructor
    · rintro ⟨q, _, hq, hr⟩
      by_cases z : okB T (fiR s u) [] q = true
      · rw [if_pos z] at hr
        unfold okB at z
        rw [Bool.and_eq_true] at z
        have z2 : fiR s u q = true := z.2
        unfold fiR at z2
        rw [Bool.or_eq_true, decide_eq_true_eq, decide_eq_true_eq, hm] at z2
        rcases z2 with z2 | z2
        · have : m = q := by omega
          rw [this]; exact Or.inl hr
        · rcases hB with ⟨b1, b2⟩ | ⟨p, p1, p2, p3, p4⟩
          · omega
          · have : p = q := by omega
            right; rw [p4, this]; exact hr
      · rw [if_neg z] at hr; cases hr
    · rintro (hr | hr)
      · exact ⟨m, Nat.zero_le _, by omega, by rw [if_pos okm]; exact hr⟩
      · rcases hB with ⟨b1, b2⟩ | ⟨p, p1, p2, p3, p4⟩
        · rw [b2] at hr; cases hr
        · rw [p4] at hr
          have okp : okB T (fiR s u) [] p = true := by
            have h2 := hal.2
            rw [p1, Int.toNat_natCast, Bool.or_eq_true, decide_eq_true_eq] at h2
            have fp : fiR s u p = true := by unfold fiR; rw [p1]; simp
            unfold okB
            rw [show T.ha p = true by rcases h2 with h2 | h2; · omega
                                      · exact h2, fp]; rfl
          exact ⟨p, Nat.zero_le _, by omega, by rw [if_pos okp]; exact hr⟩
  have cnt : ∀ hit : List Nat → Bool, accC hit (rowsL T (fiR s u)) = accC hit (ext T (fiR s u) (T.n - 1) [m] ++ B) := by
    intro hit
    rw [eR, accC_app]
    have off : ∀ q, fiR s u q = false → (if okB T (fiR s u) [] q then ext T (fiR s u) (T.n - 1) [q] else []) = [] := by
      intro q z
      have : okB T (fiR s u) [] q = false := by unfold okB; rw [z]; simp
      rw [this]; rfl
    rcases hB with ⟨b1, b2⟩ | ⟨p, p1, p2, p3, p4⟩
    · rw [accC_sib2 m T.P (by omega) T.P 0 (fun x _ h2 h3 _ => off x (by unfold fiR; rw [hm, b1]; simp; omega)), if_pos (show 0 ≤ m ∧ m < 0 + T.P by omega), if_neg (show ¬ (0 ≤ T.P ∧ T.P < 0 + T.P) by omega), if_pos okm, b2]; rfl
    · have okp : okB T (fiR s u) [] p = true := by
        have h2 := hal.2
        rw [p1, Int.toNat_natCast, Bool.or_eq_true, decide_eq_true_eq] at h2
        have fp : fiR s u p = true := by unfold fiR; rw [p1]; simp
        unfold okB
        rw [show T.ha p = true by rcases h2 with h2 | h2; · omega
                                  · exact h2, fp]; rfl
      rw [accC_sib2 m p (by omega) T.P 0 (fun x _ h2 h3 h4 => off x (by unfold fiR; rw [hm, p1]; simp; omega)), if_pos (show 0 ≤ m ∧ m < 0 + T.P by omega), if_pos (show 0 ≤ p ∧ p < 0 + T.P by omega), if_pos okm, if_pos okp, p4]
  have bdd : ∀ r, r ∈ ext T (fiR s u) (T.n - 1) [m] ++ B → keyL T r < NOW := fun r hr => by
    have := rows_mem ((mem r).mpr hr)
    have := row_bd hr9 pn9 ak9 hP hn this.1 this.2
    exact keyL_now this.1 this.2.1 this.2.2
  obtain ⟨a1, _, a3, a4⟩ := hA
  rw [WalkU, hro]
  refine ⟨fun v k hv hk => ?_, fun v hv => ?_, fun v hv hne => ?_⟩
  · rw [a1 v k hv hk, f0 v k hv hk]
    have L := accK_least (hit := fun r => hitS T s u v r && (min (tmW T.n wt r) 2 == k)) (key := keyL T) (ext T (fiR s u) (T.n - 1) [m] ++ B) [] NOW (fun r hr _ => bdd r (by simpa using hr)) (leastK_nil _ _)
    rw [List.nil_append] at L
    refine ⟨fun r hr => L.1 r ((mem r).mp hr), ?_⟩
    rcases L.2 with ⟨l1, l2⟩ | ⟨r, l1, l2, l3⟩
    · exact Or.inl ⟨l1, fun r hr => l2 r ((mem r).mp hr)⟩
    · exact Or.inr ⟨r, (mem r).mpr l1, l2, l3⟩
  · rw [a3 v hv, f1 v hv, cnt]; omega
  · have ea := a4 v hv
    rw [f1 v hv] at ea
    have en := a3 v hv
    rw [f1 v hv] at en
    have L := accL_least (hit := hitS T s u v) (ho := fun r => (hoL T r : Int)) (ext T (fiR s u) (T.n - 1) [m] ++ B) [] 0 (f101 v) (Int.le_refl _) (fun _ r hr => by cases hr) (fun z => absurd rfl z) (by omega)
    rw [List.nil_append, ← ea] at L
    obtain ⟨⟨r, l1, l2, l3⟩, l4⟩ := L
    exact ⟨⟨r, (mem r).mpr l1, l2, l3⟩, fun r hr => l4 r ((mem r).mp hr)⟩
