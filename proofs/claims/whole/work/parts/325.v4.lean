/-! which token stands at a place: 0 the end, 1 cut, 2 none, 3 the sign, 4 a number, 6 a name, 10 + k the k-th word of the texts -/
def wordL : List (List Int) := [[119, 104, 111], [111, 102], [97, 115, 107, 115], [115, 111, 114, 116], [109, 97, 107, 101, 115], [119, 105, 116, 104], [119, 97, 110, 116, 115], [98, 121], [103, 105, 118, 101, 115], [108, 97, 119], [97, 110, 121], [102, 105, 114, 115, 116], [111, 110, 99, 101], [116, 111, 119, 110, 115], [103, 105, 118, 101], [117, 115, 101], [119, 97, 105, 116]]
def letL (L : List Int) : Prop := ∀ c ∈ L, 97 ≤ c ∧ c ≤ 122
def g27 : List Int → Int
  | [] => 0
  | c :: r => g27 r * 27 + (c - 96)
def g256 : List Int → Int
  | [] => 0
  | c :: r => g256 r * 256 + c
theorem f27_rev : ∀ r : List Int, f27 r.reverse = g27 r
  | [] => rfl
  | c :: r => by rw [List.reverse_cons, f27_snoc, f27_rev r]; rfl
theorem f256_rev : ∀ r : List Int, f256 r.reverse = g256 r
  | [] => rfl
  | c :: r => by rw [List.reverse_cons, f256_snoc, f256_rev r]; rfl
theorem g27_pos : ∀ r : List Int, letL r → 0 ≤ g27 r
  | [], _ => Int.le_refl _
  | c :: r, h => by
    have h1 := h c (List.mem_cons_self ..)
    have h2 := g27_pos r (fun a ha => h a (List.mem_cons_of_mem _ ha))
    show 0 ≤ g27 r * 27 + (c - 96)
    omega
theorem g256_pos : ∀ r : List Int, letL r → 0 ≤ g256 r
  | [], _ => Int.le_refl _
  | c :: r, h => by
    have h1 := h c (List.mem_cons_self ..)
    have h2 := g256_pos r (fun a ha => h a (List.mem_cons_of_mem _ ha))
    show 0 ≤ g256 r * 256 + c
    omega
theorem g27_inj : ∀ r s : List Int, letL r → letL s → g27 r = g27 s → r = s
  | [], [], _, _, _ => rfl
  | [], c :: s, _, h, e => by
    have h1 := h c (List.mem_cons_self ..)
    have h2 := g27_pos s (fun a ha => h a (List.mem_cons_of_mem _ ha))
    have e : 0 = g27 s * 27 + (c - 96) := e
    omega
  | c :: r, [], h, _, e => by
    have h1 := h c (List.mem_cons_self ..)
    have h2 := g27_pos r (fun a ha => h a (List.mem_cons_of_mem _ ha))
    have e : g27 r * 27 + (c - 96) = 0 := e
    omega
  | c :: r, b :: s, h, h', e => by
    have h1 := h c (List.mem_cons_self ..)
    have h2 := h' b (List.mem_cons_self ..)
    have e : g27 r * 27 + (c - 96) = g27 s * 27 + (b - 96) := e
    have ih := g27_inj r s (fun a ha => h a (List.mem_cons_of_mem _ ha)) (fun a ha => h' a (List.mem_cons_of_mem _ ha)) (by omega)
    rw [ih, show c = b by rw [ih] at e; omega]
theorem g256_inj : ∀ r s : List Int, letL r → letL s → g256 r = g256 s → r = s
  | [], [], _, _, _ => rfl
  | [], c :: s, _, h, e => by
    have h1 := h c (List.mem_cons_self ..)
    have h2 := g256_pos s (fun a ha => h a (List.mem_cons_of_mem _ ha))
    have e : 0 = g256 s * 256 + c := e
    omega
  | c :: r, [], h, _, e => by
    have h1 := h c (List.mem_cons_self ..)
    have h2 := g256_pos r (fun a ha => h a (List.mem_cons_of_mem _ ha))
    have e : g256 r * 256 + c = 0 := e
    omega
  | c :: r, b :: s, h, h', e => by
    have h1 := h c (List.mem_cons_self ..)
    have h2 := h' b (List.mem_cons_self ..)
    have e : g256 r * 256 + c = g256 s * 256 + b := e
    have ih := g256_inj r s (fun a ha => h a (List.mem_cons_of_mem _ ha)) (fun a ha => h' a (List.mem_cons_of_mem _ ha)) (by omega)
    rw [ih, show c = b by rw [ih] at e; omega]
theorem letL_rev {L : List Int} (h : letL L) : letL L.reverse := fun c hc => h c (List.mem_reverse.mp hc)
theorem f27_inj {L M : List Int} (h : letL L) (h' : letL M) (e : f27 L = f27 M) : L = M := by
  have := g27_inj L.reverse M.reverse (letL_rev h) (letL_rev h') (by rw [← f27_rev, ← f27_rev, List.reverse_reverse, List.reverse_reverse]; exact e)
  rw [← List.reverse_reverse L, this, List.reverse_reverse]
theorem f256_inj {L M : List Int} (h : letL L) (h' : letL M) (e : f256 L = f256 M) : L = M := by
  have := g256_inj L.reverse M.reverse (letL_rev h) (letL_rev h') (by rw [← f256_rev, ← f256_rev, List.reverse_reverse, List.reverse_reverse]; exact e)
  rw [← List.reverse_reverse L, this, List.reverse_reverse]
theorem NameR_iff {a b a' b' : Int} (h : NameR a b) (h' : NameR a' b') : a = a' ↔ b = b' := by
  obtain ⟨L, o, e, f⟩ := h
  obtain ⟨M, o', e', f'⟩ := h'
  constructor
  · intro z
    have := f27_inj o.2.2 o'.2.2 (by rw [← e, ← e', z])
    rw [f, f', this]
  · intro z
    have := f256_inj o.2.2 o'.2.2 (by rw [← f, ← f', z])
    rw [e, e', this]
def kwF : List Int → Int → Nat
  | [], _ => 0
  | a :: t, v => if v = a then 0 else kwF t v + 1
theorem kwF_le : ∀ (l : List Int) (v : Int), kwF l v ≤ l.length
  | [], _ => Nat.le_refl _
  | a :: t, v => by
    show (if v = a then 0 else kwF t v + 1) ≤ t.length + 1
    have := kwF_le t v
    split <;> omega
theorem kwF_at : ∀ (l : List Int) (v : Int), kwF l v < l.length → nthA 0 l (kwF l v) = v
  | [], _, h => absurd h (Nat.not_lt_zero _)
  | a :: t, v, h => by
    have h : (if v = a then 0 else kwF t v + 1) < t.length + 1 := h
    show nthA 0 (a :: t) (if v = a then 0 else kwF t v + 1) = v
    by_cases z : v = a
    · rw [if_pos z]; exact z.symm
    · rw [if_neg z] at h ⊢
      exact kwF_at t v (by omega)
theorem kw_res : ∀ j, j < 17 → kwF resK (nthA 0 resK j) = j := by decide +kernel
theorem kw_words : ∀ j, j < 17 → nthA 0 tokK j = f27 (nthA [] wordL j) ∧ nthA 0 resK j = f256 (nthA [] wordL j) := by decide +kernel
theorem kw_let : ∀ j, j < 17 → letL (nthA [] wordL j) := by
  have h : ∀ j, j < 17 → (nthA [] wordL j).all (fun c => decide (97 ≤ c ∧ c ≤ 122)) = true := by decide +kernel
  intro j hj c hc
  have := List.all_eq_true.mp (h j hj) c hc
  simpa using this
noncomputable def tkF (x : Tx) (p : Nat) : Nat := if kdF x p = 5 then (if kwF resK (f256 (liF x p)) < 17 then 10 + kwF resK (f256 (liF x p)) else 6) else kdF x p
theorem sgF_mem {t : Nat → Int} {q : Nat} {c : Int} : ∀ n, c ∈ sgF t q n → ∃ j, j < n ∧ c = t (q + j)
  | 0, h => by cases h
  | n + 1, h => by
    rcases List.mem_append.mp h with a | a
    · obtain ⟨j, hj, e⟩ := sgF_mem n a
      exact ⟨j, by omega, e⟩
    · exact ⟨n, by omega, List.mem_singleton.mp a⟩
/-- the places of a token -/
theorem kdF_in {x : Tx} {p : Nat} (h : 2 ≤ kdF x p) : qF x p < rdb x := by
  by_cases z : rdb x ≤ qF x p
  · have : kdF x p = if rdb x < x.L then 1 else 0 := by unfold kdF; rw [if_pos z]
    rw [this] at h
    split at h <;> omega
  · omega
theorem eF_le {x : Tx} {p : Nat} (h : qF x p < rdb x) : eF x p ≤ x.L := ruF_le _ _ _ _ (by have : rdb x ≤ x.L := Nat.min_le_left _ _; omega)
theorem eF_ge (x : Tx) (p : Nat) : qF x p ≤ eF x p := ruF_ge _ _ _ _
theorem qF_ge (x : Tx) (p : Nat) : p ≤ qF x p := skF_ge _ _ _ _
theorem nxF_in {x : Tx} {p : Nat} (h : 2 ≤ kdF x p) : p < nxF x p ∧ nxF x p ≤ x.L := by
  have q := kdF_in h
  have a := eF_le q
  have b := eF_ge x p
  have c := qF_ge x p
  have e : rdb x ≤ x.L := Nat.min_le_left _ _
  unfold nxF
  split <;> omega
theorem kdF_run' {x : Tx} {p : Nat} (h : 4 ≤ kdF x p) : ¬ eF x p = qF x p := fun z => by
  have q := kdF_in (x := x) (p := p) (by omega)
  have : kdF x p = if x.t (qF x p) = 59 then 3 else 2 := by unfold kdF; rw [if_neg (by omega), if_pos z]
  rw [this] at h
  split at h <;> omega
theorem kdF_run2 {x : Tx} {p : Nat} (h : 2 ≤ kdF x p) (z : ¬ eF x p = qF x p) : kdF x p = if dgF x.t (qF x p) (eF x p - qF x p) = eF x p - qF x p ∧ eF x p - qF x p ≤ 3 then 4 else if dgF x.t (qF x p) (eF x p - qF x p) = 0 ∧ eF x p - qF x p ≤ 6 then 5 else 2 := by
  have q := kdF_in h
  unfold kdF
  rw [if_neg (by omega), if_neg z]
theorem liF_ok {x : Tx} {p : Nat} (h : kdF x p = 5) : okL (liF x p) := by
  have q := kdF_in (x := x) (p := p) (by omega)
  have z := kdF_run' (x := x) (p := p) (by omega)
  have g := eF_ge x p
  have k := kdF_run2 (x := x) (p := p) (by omega) z
  rw [h] at k
  have d : dgF x.t (qF x p) (eF x p - qF x p) = 0 ∧ eF x p - qF x p ≤ 6 := by
    split at k
    · omega
    · split at k
      · assumption
      · omega
  refine ⟨?_, ?_, fun c hc => ?_⟩
  · show 1 ≤ (sgF x.t (qF x p) (eF x p - qF x p)).length
    rw [sgF_len]; omega
  · show (sgF x.t (qF x p) (eF x p - qF x p)).length ≤ 6
    rw [sgF_len]; omega
  · obtain ⟨j, hj, e⟩ := sgF_mem _ hc
    have r := ruF_run x.t x.L (x.L - qF x p) (qF x p) (qF x p + j) (by omega) (by
      have : eF x p = ruF x.t x.L (x.L - qF x p) (qF x p) := rfl
      omega)
    have nd := dgF_none _ d.1 j hj
    rw [e]
    exact r.elim (fun a => a) (fun a => absurd a nd)
theorem vnF_in {x : Tx} {p : Nat} (h : kdF x p = 4) : 0 ≤ vnF x p ∧ vnF x p < 1000 := by
  have z := kdF_run' (x := x) (p := p) (by omega)
  have k := kdF_run2 (x := x) (p := p) (by omega) z
  rw [h] at k
  have d : dgF x.t (qF x p) (eF x p - qF x p) = eF x p - qF x p ∧ eF x p - qF x p ≤ 3 := by
    split at k
    · assumption
    · split at k <;> omega
  have b := nuF_bd (t := x.t) (q := qF x p) _ (dgF_all _ d.1)
  unfold vnF
  have pn : 10 ^ (eF x p - qF x p) ≤ 1000 := Nat.le_trans (Nat.pow_le_pow_right (by decide) d.2) (by decide)
  have pe : (10 : Int) ^ (eF x p - qF x p) = ((10 ^ (eF x p - qF x p) : Nat) : Int) := by rw [Int.natCast_pow] <;> rfl
  rw [pe] at b
  generalize 10 ^ (eF x p - qF x p) = z2 at *
  omega
theorem tkF_le {x : Tx} {p : Nat} : (tkF x p ≤ 4 → kdF x p = tkF x p) ∧ (tkF x p = 6 → kdF x p = 5) ∧ (∀ j, tkF x p = 10 + j → kdF x p = 5 ∧ j < 17 ∧ f256 (liF x p) = nthA 0 resK j) ∧ tkF x p ≠ 5 ∧ (tkF x p < 10 → tkF x p ≤ 6) ∧ tkF x p < 27 := by
  have k5 : kdF x p ≤ 5 := by
    unfold kdF
    repeat' split
    all_goals omega
  unfold tkF
  by_cases z : kdF x p = 5
  · rw [if_pos z]
    by_cases y : kwF resK (f256 (liF x p)) < 17
    · rw [if_pos y]
      refine ⟨fun a => by omega, fun a => by omega, fun j a => ⟨z, by omega, ?_⟩, by omega, fun a => by omega, by omega⟩
      have := kwF_at resK (f256 (liF x p)) y
      rw [show j = kwF resK (f256 (liF x p)) by omega, this]
    · rw [if_neg y]
      exact ⟨fun a => by omega, fun a => z, fun j a => by omega, by omega, fun a => by omega, by omega⟩
  · rw [if_neg z]
    exact ⟨fun a => rfl, fun a => by omega, fun j a => by omega, by omega, fun a => by omega, by omega⟩
theorem tkF_no {x : Tx} {p j : Nat} (h : tkF x p = 6) (hj : j < 17) : f256 (liF x p) ≠ nthA 0 resK j := fun e => by
  have k := tkF_le.2.1 h
  unfold tkF at h
  rw [if_pos k, e, kw_res j hj, if_pos hj] at h
  omega
/-- the class's token, by its sort -/
def ClK (o : Nat → Int) (x : Tx) (p : Nat) : Prop := (o 2 = x.L) ∧ (o 3 = rdb x) ∧ (o 7 = plF x p) ∧ (tkF x p < 5 → o 5 = tkF x p) ∧ (tkF x p = 3 → o 4 = nxF x p) ∧ (tkF x p = 4 → o 4 = nxF x p ∧ o 6 = vnF x p) ∧ (tkF x p = 6 → o 5 = 6 ∧ o 4 = nxF x p ∧ o 6 = f27 (liF x p)) ∧ (∀ j, tkF x p = 10 + j → o 5 = 5 ∧ o 4 = nxF x p ∧ o 6 = j)
theorem ClK.mk {o : Nat → Int} {x : Tx} {p : Nat} (len_ : o 2 = x.L) (rd'_ : o 3 = rdb x) (pl_ : o 7 = plF x p) (k0_ : tkF x p < 5 → o 5 = tkF x p) (k3_ : tkF x p = 3 → o 4 = nxF x p) (k4_ : tkF x p = 4 → o 4 = nxF x p ∧ o 6 = vnF x p) (k6_ : tkF x p = 6 → o 5 = 6 ∧ o 4 = nxF x p ∧ o 6 = f27 (liF x p)) (kw_ : ∀ j, tkF x p = 10 + j → o 5 = 5 ∧ o 4 = nxF x p ∧ o 6 = j) : ClK o x p := And.intro len_ (And.intro rd'_ (And.intro pl_ (And.intro k0_ (And.intro k3_ (And.intro k4_ (And.intro k6_ (kw_)))))))
theorem ClK.len {o : Nat → Int} {x : Tx} {p : Nat} (h_ : ClK o x p) : o 2 = x.L := h_.1
theorem ClK.rd' {o : Nat → Int} {x : Tx} {p : Nat} (h_ : ClK o x p) : o 3 = rdb x := h_.2.1
theorem ClK.pl {o : Nat → Int} {x : Tx} {p : Nat} (h_ : ClK o x p) : o 7 = plF x p := h_.2.2.1
theorem ClK.k0 {o : Nat → Int} {x : Tx} {p : Nat} (h_ : ClK o x p) : tkF x p < 5 → o 5 = tkF x p := h_.2.2.2.1
theorem ClK.k3 {o : Nat → Int} {x : Tx} {p : Nat} (h_ : ClK o x p) : tkF x p = 3 → o 4 = nxF x p := h_.2.2.2.2.1
theorem ClK.k4 {o : Nat → Int} {x : Tx} {p : Nat} (h_ : ClK o x p) : tkF x p = 4 → o 4 = nxF x p ∧ o 6 = vnF x p := h_.2.2.2.2.2.1
theorem ClK.k6 {o : Nat → Int} {x : Tx} {p : Nat} (h_ : ClK o x p) : tkF x p = 6 → o 5 = 6 ∧ o 4 = nxF x p ∧ o 6 = f27 (liF x p) := h_.2.2.2.2.2.2.1
theorem ClK.kw {o : Nat → Int} {x : Tx} {p : Nat} (h_ : ClK o x p) : ∀ j, tkF x p = 10 + j → o 5 = 5 ∧ o 4 = nxF x p ∧ o 6 = j := h_.2.2.2.2.2.2.2
/-- the reference's token, by its sort -/
def MdK (g : Nat → Int) (x : Tx) (p : Nat) : Prop := (g 12 = plF x p) ∧ (tkF x p = 0 → g 11 = 0) ∧ (tkF x p = 1 → g 11 = 4) ∧ (tkF x p = 2 → g 11 = 4) ∧ (tkF x p = 3 → g 11 = 3 ∧ g 14 = 59 ∧ g 4 = nxF x p) ∧ (tkF x p = 4 → g 11 = 2 ∧ g 14 = vnF x p ∧ g 4 = nxF x p) ∧ (tkF x p = 6 → g 11 = 1 ∧ g 17 = f256 (liF x p) ∧ g 4 = nxF x p) ∧ (∀ j, tkF x p = 10 + j → g 11 = 1 ∧ g 17 = nthA 0 resK j ∧ g 4 = nxF x p)
theorem MdK.mk {g : Nat → Int} {x : Tx} {p : Nat} (pl_ : g 12 = plF x p) (k0_ : tkF x p = 0 → g 11 = 0) (k1_ : tkF x p = 1 → g 11 = 4) (k2_ : tkF x p = 2 → g 11 = 4) (k3_ : tkF x p = 3 → g 11 = 3 ∧ g 14 = 59 ∧ g 4 = nxF x p) (k4_ : tkF x p = 4 → g 11 = 2 ∧ g 14 = vnF x p ∧ g 4 = nxF x p) (k6_ : tkF x p = 6 → g 11 = 1 ∧ g 17 = f256 (liF x p) ∧ g 4 = nxF x p) (kw_ : ∀ j, tkF x p = 10 + j → g 11 = 1 ∧ g 17 = nthA 0 resK j ∧ g 4 = nxF x p) : MdK g x p := And.intro pl_ (And.intro k0_ (And.intro k1_ (And.intro k2_ (And.intro k3_ (And.intro k4_ (And.intro k6_ (kw_)))))))
theorem MdK.pl {g : Nat → Int} {x : Tx} {p : Nat} (h_ : MdK g x p) : g 12 = plF x p := h_.1
theorem MdK.k0 {g : Nat → Int} {x : Tx} {p : Nat} (h_ : MdK g x p) : tkF x p = 0 → g 11 = 0 := h_.2.1
theorem MdK.k1 {g : Nat → Int} {x : Tx} {p : Nat} (h_ : MdK g x p) : tkF x p = 1 → g 11 = 4 := h_.2.2.1
theorem MdK.k2 {g : Nat → Int} {x : Tx} {p : Nat} (h_ : MdK g x p) : tkF x p = 2 → g 11 = 4 := h_.2.2.2.1
theorem MdK.k3 {g : Nat → Int} {x : Tx} {p : Nat} (h_ : MdK g x p) : tkF x p = 3 → g 11 = 3 ∧ g 14 = 59 ∧ g 4 = nxF x p := h_.2.2.2.2.1
theorem MdK.k4 {g : Nat → Int} {x : Tx} {p : Nat} (h_ : MdK g x p) : tkF x p = 4 → g 11 = 2 ∧ g 14 = vnF x p ∧ g 4 = nxF x p := h_.2.2.2.2.2.1
theorem MdK.k6 {g : Nat → Int} {x : Tx} {p : Nat} (h_ : MdK g x p) : tkF x p = 6 → g 11 = 1 ∧ g 17 = f256 (liF x p) ∧ g 4 = nxF x p := h_.2.2.2.2.2.2.1
theorem MdK.kw {g : Nat → Int} {x : Tx} {p : Nat} (h_ : MdK g x p) : ∀ j, tkF x p = 10 + j → g 11 = 1 ∧ g 17 = nthA 0 resK j ∧ g 4 = nxF x p := h_.2.2.2.2.2.2.2
theorem ClT_K {o : Nat → Int} {x : Tx} {p : Nat} (h : ClT o x p) : ClK o x p := by
  have tl := tkF_le (x := x) (p := p)
  refine ClK.mk h.len h.rd' h.pl (fun z => ?_) (fun z => ?_) (fun z => ?_) (fun z => ?_) (fun j z => ?_)
  · have k := tl.1 (by omega)
    rcases (show tkF x p = 0 ∨ tkF x p = 1 ∨ tkF x p = 2 ∨ tkF x p = 3 ∨ tkF x p = 4 by omega) with e | e | e | e | e
    · rw [e, h.k0 (by omega)]; rfl
    · rw [e, h.k1 (by omega)]; rfl
    · rw [e, h.k2 (by omega)]; rfl
    · rw [e, (h.k3 (by omega)).1]; rfl
    · rw [e, (h.k4 (by omega)).1]; rfl
  · have k := tl.1 (by omega)
    exact (h.k3 (by omega)).2
  · have k := tl.1 (by omega)
    exact (h.k4 (by omega)).2
  · have k := tl.2.1 z
    have c := h.k5 k
    rcases c.2 with ⟨_, i, hi, _, e⟩ | a
    · exfalso
      have L := liF_ok k
      have W := kw_words i hi
      have := f27_inj (kw_let i hi) L.2.2 (by rw [← W.1]; exact e)
      exact tkF_no z hi (by rw [W.2, this])
    · exact ⟨a.1, c.1, a.2.1⟩
  · obtain ⟨k, hj, e⟩ := tl.2.2.1 j z
    have c := h.k5 k
    have L := liF_ok k
    have W := kw_words j hj
    have me : nthA [] wordL j = liF x p := f256_inj (kw_let j hj) L.2.2 (by rw [← W.2]; exact e.symm)
    rcases c.2 with ⟨a, i, hi, b, e2⟩ | a
    · have W2 := kw_words i hi
      have m2 : nthA [] wordL i = liF x p := f27_inj (kw_let i hi) L.2.2 (by rw [← W2.1]; exact e2)
      have ij : i = j := by
        have := kw_res i hi
        rw [W2.2, m2, ← me, ← W.2, kw_res j hj] at this
        exact this.symm
      rw [ij] at b
      exact ⟨a, c.1, b⟩
    · exact absurd (by rw [W.1, me]) (a.2.2 j hj)
theorem MdT_K {g : Nat → Int} {x : Tx} {p : Nat} (h : MdT g x p) : MdK g x p := by
  have tl := tkF_le (x := x) (p := p)
  refine MdK.mk h.pl (fun z => h.k0 (by have := tl.1 (by omega); omega)) (fun z => h.k1 (by have := tl.1 (by omega); omega)) (fun z => h.k2 (by have := tl.1 (by omega); omega)) (fun z => h.k3 (by have := tl.1 (by omega); omega)) (fun z => h.k4 (by have := tl.1 (by omega); omega)) (fun z => h.k5 (tl.2.1 z)) (fun j z => ?_)
  obtain ⟨k, hj, e⟩ := tl.2.2.1 j z
  have c := h.k5 k
  rw [e] at c
  exact c
theorem tkF_nx {x : Tx} {p : Nat} (h : 3 ≤ tkF x p) : p < nxF x p ∧ nxF x p ≤ x.L := by
  have tl := tkF_le (x := x) (p := p)
  apply nxF_in
  by_cases a : tkF x p ≤ 4
  · have := tl.1 a; omega
  · by_cases b : tkF x p = 6
    · have := tl.2.1 b; omega
    · have := (tl.2.2.1 (tkF x p - 10) (by omega)).1
      omega
theorem tkF_3 {x : Tx} {p : Nat} (h : tkF x p = 3) : nxF x p ≤ rdb x := by
  have tl := tkF_le (x := x) (p := p)
  have k := tl.1 (by omega)
  have q := kdF_in (x := x) (p := p) (by omega)
  have z : eF x p = qF x p := by
    by_cases z : eF x p = qF x p
    · exact z
    · have := kdF_run2 (x := x) (p := p) (by omega) z
      split at this
      · omega
      · split at this <;> omega
  unfold nxF
  rw [if_pos z]; omega
