/-! the small machine's worlds against the heap -/
def toV (ρ : Nat → Nat) (v : MV) : Value := match v with
  | none => .null
  | some (.inl x) => .int (Int32.ofInt x)
  | some (.inr (.inl x)) => .long (Int64.ofInt x)
  | some (.inr (.inr h)) => .ref (ρ h)
def okV (n : Nat) (v : MV) : Prop := match v with
  | none => True
  | some (.inl x) => in32 x
  | some (.inr (.inl x)) => in64 x
  | some (.inr (.inr h)) => h < n ∨ h = 400
def fvl (ρ : Nat → Nat) (h : Nat) (f : Nat → Int) (j : Nat) : Value :=
  if fty (kd h) j = 2 then (if f j = 0 then .null else .ref (ρ (gr h j))) else if fty (kd h) j = 1 then .long (Int64.ofInt (f j)) else .int (Int32.ofInt (f j))
def celE (κ : Nat → ClassId) (ρ : Nat → Nat) (h : Nat) (f : Nat → Int) : va_E :=
  if kd h < 20 then .inr (kd h, (List.range (szI h).toNat).map (fvl ρ h f))
  else if kd h = 21 then .inl (κ 21, ((szI h).toNat, .inr (.inl (fun j => Int64.ofInt (f j)))))
  else if kd h = 24 then .inl (κ 24, ((szI h).toNat, .inr (.inr (.inr (.inr (fun j => if f j = 0 then none else some (ρ (gr h j))))))))
  else .inl (κ (kd h), ((szI h).toNat, .inl (fun j => Int32.ofInt (f j))))
def wsO (κ : Nat → ClassId) (ρ : Nat → Nat) (w : Wd) (n : Nat) : va_W := (List.range n).map (fun h => (ρ h, celE κ ρ h (w h)))
def tysO (κ : Nat → ClassId) : List (ClassId × FieldType) := [(κ 20, .int), (κ 21, .long), (κ 22, .byte), (κ 23, .boolean), (κ 24, .object "ThirdHands$Image")]
def tyC (h j : Nat) : Nat := if kd h < 20 then fty (kd h) j else if kd h = 21 then 1 else 0
def rfC (h j : Nat) : Prop := (kd h < 20 ∧ fty (kd h) j = 2) ∨ kd h = 24
def okW (n : Nat) (w : Wd) : Prop := ∀ h j, h < n → (if tyC h j = 1 then in64 (w h j) else in32 (w h j)) ∧ (rfC h j → ¬ w h j = 0 → gr h j < n)
theorem wsO_at {κ : Nat → ClassId} {ρ : Nat → Nat} {w : Wd} {n h : Nat} (hh : h < n) : (wsO κ ρ w n)[h]? = some (ρ h, celE κ ρ h (w h)) := by
  unfold wsO
  rw [List.getElem?_map, List.getElem?_range hh]
  rfl
theorem wsO_set {κ : Nat → ClassId} {ρ : Nat → Nat} {w : Wd} {n h : Nat} (hh : h < n) (f : Nat → Int) : (wsO κ ρ w n).set h (ρ h, celE κ ρ h f) = wsO κ ρ (ubf w h f) n := by
  apply List.ext_getElem?
  intro k
  by_cases hk : k = h
  · subst hk
    rw [List.getElem?_set_self (by simpa [wsO] using hh), wsO_at hh, ubf_self]
  · rw [List.getElem?_set_ne (Ne.symm hk)]
    by_cases hn : k < n
    · rw [wsO_at hn, wsO_at hn, ubf_ne _ hk]
    · rw [List.getElem?_eq_none (by simp [wsO]; omega), List.getElem?_eq_none (by simp [wsO]; omega)]
theorem celE_agree {κ : Nat → ClassId} {ρ ρ' : Nat → Nat} {h n : Nat} {f : Nat → Int} (ha : ∀ g, g < n → ρ' g = ρ g) (hr : ∀ j, rfC h j → ¬ f j = 0 → gr h j < n) : celE κ ρ' h f = celE κ ρ h f := by
  unfold celE
  by_cases h1 : kd h < 20
  · rw [if_pos h1, if_pos h1]
    congr 2
    apply List.map_congr_left
    intro j _
    unfold fvl
    by_cases h2 : fty (kd h) j = 2
    · rw [if_pos h2, if_pos h2]
      by_cases h3 : f j = 0
      · rw [if_pos h3, if_pos h3]
      · rw [if_neg h3, if_neg h3, ha _ (hr j (Or.inl ⟨h1, h2⟩) h3)]
    · rw [if_neg h2, if_neg h2]
  · rw [if_neg h1, if_neg h1]
    by_cases h2 : kd h = 21
    · rw [if_pos h2, if_pos h2]
    · rw [if_neg h2, if_neg h2]
      by_cases h3 : kd h = 24
      · rw [if_pos h3, if_pos h3]
        have e : (fun j => if f j = 0 then none else some (ρ' (gr h j))) = (fun j => if f j = 0 then none else some (ρ (gr h j))) := by
          funext j
          by_cases h4 : f j = 0
          · rw [if_pos h4, if_pos h4]
          · rw [if_neg h4, if_neg h4, ha _ (hr j (Or.inr h3) h4)]
        rw [e]
      · rw [if_neg h3, if_neg h3]
theorem wsO_agree {κ : Nat → ClassId} {ρ ρ' : Nat → Nat} {w : Wd} {n : Nat} (ha : ∀ g, g < n → ρ' g = ρ g) (ho : okW n w) : wsO κ ρ' w n = wsO κ ρ w n := by
  unfold wsO
  apply List.map_congr_left
  intro h hh
  have hh := List.mem_range.mp hh
  rw [ha h hh, celE_agree ha (fun j q1 q2 => (ho h j hh).2 q1 q2)]
theorem gr_lt : ∀ h j, gr h j < 186 := by
  have h1 : ∀ l ∈ grL, ∀ x ∈ l, x < 186 := by decide +kernel
  have hn : ∀ (l : List Nat) (j : Nat), (∀ x ∈ l, x < 186) → nthA 0 l j < 186 := by
    intro l
    induction l with
    | nil => intro j _; simp [nthA]
    | cons a t ih =>
      intro j hx
      cases j with
      | zero => exact hx a List.mem_cons_self
      | succ j => exact ih j (fun x q => hx x (List.mem_cons_of_mem _ q))
  have hm : ∀ (L : List (List Nat)) (h : Nat), (∀ l ∈ L, ∀ x ∈ l, x < 186) → ∀ x ∈ nthA [] L h, x < 186 := by
    intro L
    induction L with
    | nil => intro h _ x hx; simp [nthA] at hx
    | cons a t ih =>
      intro h hL
      cases h with
      | zero => exact hL a List.mem_cons_self
      | succ h => exact ih h (fun l q => hL l (List.mem_cons_of_mem _ q))
  intro h j
  exact hn _ j (hm grL h h1)
def SL : Nat → Nat
  | 0 => 0
  | n + 1 => SL n + (szI n).toNat
theorem SL_mono : ∀ (a b : Nat), a ≤ b → SL a ≤ SL b := by
  intro a b h
  induction b with
  | zero => have : a = 0 := by omega
            subst this; exact Nat.le_refl _
  | succ b ih =>
    by_cases q : a = b + 1
    · subst q; exact Nat.le_refl _
    · have := ih (by omega)
      show SL a ≤ SL b + _
      omega
def wsB : List Jvm.Cond := lw_tbl.filter goodWord
theorem seg_in : ∀ (k : Nat) (w : Jvm.Cond), w ∈ segW k → w ∈ lw_tbl := by
  intro k w h
  unfold lw_tbl tables_1
  match k, h with
  | 0, h => exact List.mem_append_left _ h
  | 1, h => exact List.mem_append_right _ (List.mem_append_left _ h)
  | 2, h => exact List.mem_append_right _ (List.mem_append_right _ (List.mem_append_left _ h))
  | 3, h => exact List.mem_append_right _ (List.mem_append_right _ (List.mem_append_right _ (List.mem_append_left _ h)))
  | 4, h => exact List.mem_append_right _ (List.mem_append_right _ (List.mem_append_right _ (List.mem_append_right _ (List.mem_append_left _ h))))
  | 5, h => exact List.mem_append_right _ (List.mem_append_right _ (List.mem_append_right _ (List.mem_append_right _ (List.mem_append_right _ (List.mem_append_left _ h)))))
  | 6, h => exact List.mem_append_right _ (List.mem_append_right _ (List.mem_append_right _ (List.mem_append_right _ (List.mem_append_right _ (List.mem_append_right _ (List.mem_append_left _ h))))))
  | 7, h => exact List.mem_append_right _ (List.mem_append_right _ (List.mem_append_right _ (List.mem_append_right _ (List.mem_append_right _ (List.mem_append_right _ (List.mem_append_right _ (List.mem_append_left _ h)))))))
  | 8, h => exact List.mem_append_right _ (List.mem_append_right _ (List.mem_append_right _ (List.mem_append_right _ (List.mem_append_right _ (List.mem_append_right _ (List.mem_append_right _ (List.mem_append_right _ (List.mem_append_left _ h))))))))
  | 9, h => exact List.mem_append_right _ (List.mem_append_right _ (List.mem_append_right _ (List.mem_append_right _ (List.mem_append_right _ (List.mem_append_right _ (List.mem_append_right _ (List.mem_append_right _ (List.mem_append_right _ h))))))))
  | k + 10, h => simp [segW] at h
theorem hasW_in {q : Nat} {w : Jvm.Cond} (h : hasW q w = true) (hg : goodWord w = true) : w ∈ wsB := by
  unfold hasW at h
  rw [decide_eq_true_eq] at h
  exact List.mem_filter.mpr ⟨seg_in _ _ (List.mem_of_getElem? h), hg⟩
/-- the static facts of the classes -/
def layL : List (List Nat) := [[2030, 2032, 2034, 2036, 2038, 2040, 2042], [3007, 3009, 3011, 3013, 3015, 3017, 3019, 3021, 3023, 3025, 3027, 3029], [2065, 2067, 2069, 2071], [2200, 2202, 2204, 2206, 2208, 2210, 2212, 2214, 2216], [2005, 2007, 2009, 2011, 2013], [3044, 3046, 3048, 3050], [2107, 2109, 2111, 2113, 2115, 2117, 2119, 2121], [1102, 1104, 1106, 1108, 1110, 1112, 1114, 1116, 1118], [3075, 3077, 3079, 3081, 3083, 3085, 3087, 3089], [1189, 1191, 1193, 1195, 1197, 1199, 1201, 1203, 1205, 1207, 1209, 1211, 1213, 1215, 1217, 1219, 1221, 1223], [2151, 2153, 2155, 2157, 2159, 2161, 2163, 2165, 2167, 2169, 2171, 2173, 2175, 2177, 2179, 2181], [3108, 3110, 3112, 3114, 3116, 3118, 3120, 3122, 3124, 3126, 3128, 3130, 3132, 3134, 3136, 3138], [7086, 7088, 7090, 7092, 7094, 7096, 7098, 7100, 7102, 7104, 7106, 7108, 7110, 7112, 7114, 7116, 7118, 7120, 7122, 7124, 7126, 7128, 7130, 7132, 7134, 7136, 7138, 7140, 7142, 7144, 7146, 7148, 7150, 7152, 7154, 7156, 7158, 7160, 7162, 7164, 7166, 7168, 7170, 7172, 7174, 7176, 7178, 7180, 7182, 7184, 7186, 7188, 7190, 7192, 7194, 7196, 7198, 7200, 7202, 7204, 7206, 7208, 7210, 7212, 7214, 7216, 7218, 7220, 7222, 7224, 7226, 7228, 7230, 7232, 7234, 7236, 7238, 8000, 8002, 8004]]
def layB (k : Nat) : Bool := match vwCl[k]? with
  | some (C, T, N) => decide ((nthA [] layL k).length = N) && (List.range N).all (fun j => hasW (nthA 0 (nthA [] layL k) j) (u_lay C T j) && goodWord (u_lay C T j))
  | none => true
set_option maxRecDepth 100000 in
theorem lay_ok : (List.range 13).all layB = true := by decide +kernel
theorem cl_lt {k : Nat} {q : vw_C} (h : vwCl[k]? = some q) : k < 13 := (List.getElem?_eq_some_iff.mp h).1
theorem lay_in {k : Nat} {C : String} {T : u_T} {N : Nat} (h : vwCl[k]? = some (C, T, N)) : ∀ w ∈ u_ws C T N, w ∈ wsB := by
  have h1 := List.all_eq_true.mp lay_ok k (List.mem_range.mpr (cl_lt h))
  unfold layB at h1
  rw [h] at h1
  simp only [Bool.and_eq_true] at h1
  intro w hw
  obtain ⟨j, hj, rfl⟩ := List.mem_map.mp hw
  have h2 := List.all_eq_true.mp h1.2 j hj
  simp only [Bool.and_eq_true] at h2
  exact hasW_in h2.1 h2.2
theorem cl_names {k : Nat} {C : String} {T : u_T} {N : Nat} (h : vwCl[k]? = some (C, T, N)) : ∀ a, a < N → ∀ b, b < N → a ≠ b → (T a).2.1 ≠ (T b).2.1 := by
  have hk := cl_lt h
  match k, hk, h with
  | 0, _, h => cases h; exact nmX0
  | 1, _, h => cases h; exact nmX1
  | 2, _, h => cases h; exact nmX2
  | 3, _, h => cases h; exact nmX3
  | 4, _, h => cases h; exact nmX4
  | 5, _, h => cases h; exact nmX5
  | 6, _, h => cases h; exact nmX6
  | 7, _, h => cases h; exact nmX7
  | 8, _, h => cases h; exact nmX8
  | 9, _, h => cases h; exact nmX9
  | 10, _, h => cases h; exact nmX10
  | 11, _, h => cases h; exact nmX11
  | 12, _, h => cases h; exact nmX12
def tyOf (T : u_T) (j : Nat) : FieldType := (parseFieldDescriptor (T j).2.2.1).getD .int
def tyB (k : Nat) : Bool := match vwCl[k]? with
  | some (_, T, N) => (List.range N).all (fun j => (parseFieldDescriptor (T j).2.2.1).isSome && (match tyOf T j with
    | .int => fty k j == 0
    | .long => fty k j == 1
    | .boolean => fty k j == 3
    | .object _ => fty k j == 2
    | .array _ => fty k j == 2
    | _ => false))
  | none => true
set_option maxRecDepth 100000 in
theorem ty_ok : (List.range 13).all tyB = true := by decide +kernel
theorem cl_ty {k : Nat} {C : String} {T : u_T} {N : Nat} (h : vwCl[k]? = some (C, T, N)) {j : Nat} (hj : j < N) : parseFieldDescriptor (T j).2.2.1 = some (tyOf T j) ∧
    (fty k j = 0 → tyOf T j = .int) ∧ (fty k j = 1 → tyOf T j = .long) ∧ (fty k j = 3 → tyOf T j = .boolean) ∧ (fty k j = 2 → (∃ n, tyOf T j = .object n) ∨ ∃ t, tyOf T j = .array t) := by
  have h1 := List.all_eq_true.mp ty_ok k (List.mem_range.mpr (cl_lt h))
  unfold tyB at h1
  rw [h] at h1
  have h2 := List.all_eq_true.mp h1 j (List.mem_range.mpr hj)
  simp only [Bool.and_eq_true] at h2
  obtain ⟨h2, h3⟩ := h2
  refine ⟨?_, ?_⟩
  · obtain ⟨t, ht⟩ := Option.isSome_iff_exists.mp h2
    unfold tyOf
    rw [ht]; rfl
  · cases e : tyOf T j <;> rw [e] at h3 <;> simp at h3 <;> simp [h3]
def szB (h : Nat) : Bool := if kd h < 20 then (match vwCl[kd h]? with
  | some (_, _, N) => szI h == (N : Int)
  | none => false) else (kd h == 20 || kd h == 21 || kd h == 22 || kd h == 23 || kd h == 24) && decide (0 ≤ szI h) && decide (szI h ≤ 2000)
set_option maxRecDepth 100000 in
theorem sz_ok : (List.range 186).all szB = true := by decide +kernel
theorem sz_cl {h : Nat} (hh : h < 186) (hk : kd h < 20) : ∃ C T, vwCl[kd h]? = some (C, T, (szI h).toNat) ∧ szI h = ((szI h).toNat : Int) := by
  have h1 := List.all_eq_true.mp sz_ok h (List.mem_range.mpr hh)
  unfold szB at h1
  rw [if_pos hk] at h1
  cases e : vwCl[kd h]? with
  | none => rw [e] at h1; cases h1
  | some q =>
    obtain ⟨C, T, N⟩ := q
    rw [e] at h1
    have h2 : szI h = (N : Int) := by simpa using h1
    refine ⟨C, T, ?_, ?_⟩
    · rw [h2, Int.toNat_natCast]
    · rw [h2, Int.toNat_natCast]
theorem sz_arr {h : Nat} (hh : h < 186) (hk : ¬ kd h < 20) : (kd h = 20 ∨ kd h = 21 ∨ kd h = 22 ∨ kd h = 23 ∨ kd h = 24) ∧ 0 ≤ szI h ∧ szI h ≤ 2000 := by
  have h1 := List.all_eq_true.mp sz_ok h (List.mem_range.mpr hh)
  unfold szB at h1
  rw [if_neg hk] at h1
  simp only [Bool.and_eq_true, Bool.or_eq_true, beq_iff_eq, decide_eq_true_eq] at h1
  omega
def refB : Bool := (List.range 186).all (fun h => (List.range (szI h).toNat).all (fun j => if (kd h < 20 ∧ fty (kd h) j = 2) ∨ kd h = 24 then decide ((h, j) ∈ refL) else true)) && refL.all (fun q => decide (q.1 < 186) && decide ((kd q.1 < 20 ∧ fty (kd q.1) q.2 = 2) ∨ kd q.1 = 24) && decide ((q.2 : Int) < szI q.1))
set_option maxRecDepth 100000 in
theorem ref_ok : refB = true := by decide +kernel
theorem ref_in {h j : Nat} (hh : h < 186) (hj : (j : Int) < szI h) (hr : rfC h j) : (h, j) ∈ refL := by
  have h1 := ref_ok
  unfold refB at h1
  simp only [Bool.and_eq_true] at h1
  have h2 := List.all_eq_true.mp (List.all_eq_true.mp h1.1 h (List.mem_range.mpr hh)) j (List.mem_range.mpr (by omega))
  unfold rfC at hr
  rw [if_pos hr] at h2
  exact of_decide_eq_true h2
theorem ref_is {q : Nat × Nat} (hq : q ∈ refL) : q.1 < 186 ∧ rfC q.1 q.2 := by
  have h1 := ref_ok
  unfold refB at h1
  simp only [Bool.and_eq_true] at h1
  have h2 := List.all_eq_true.mp h1.2 q hq
  simp only [Bool.and_eq_true, decide_eq_true_eq] at h2
  exact ⟨h2.1.1, h2.1.2⟩
