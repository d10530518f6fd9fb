/-- two ways of telling that let the same rows and hours -/
def TmE (T T' : Tm) : Prop := (T.n = T'.n) ∧ (T.back = T'.back) ∧ (T.P = T'.P) ∧ (∀ p q, T.gv p q = T'.gv p q) ∧ (∀ q, T.ha q = T'.ha q) ∧ (∀ q, T.tw q = T'.tw q) ∧ (∀ p q, T.gv p q = true → T.hr p q = T'.hr p q)
theorem TmE.mk {T T' : Tm} (n_ : T.n = T'.n) (back_ : T.back = T'.back) (P_ : T.P = T'.P) (gv_ : ∀ p q, T.gv p q = T'.gv p q) (ha_ : ∀ q, T.ha q = T'.ha q) (tw_ : ∀ q, T.tw q = T'.tw q) (hr_ : ∀ p q, T.gv p q = true → T.hr p q = T'.hr p q) : TmE T T' := And.intro n_ (And.intro back_ (And.intro P_ (And.intro gv_ (And.intro ha_ (And.intro tw_ (hr_))))))
theorem TmE.n {T T' : Tm} (h_ : TmE T T') : T.n = T'.n := h_.1
theorem TmE.back {T T' : Tm} (h_ : TmE T T') : T.back = T'.back := h_.2.1
theorem TmE.P {T T' : Tm} (h_ : TmE T T') : T.P = T'.P := h_.2.2.1
theorem TmE.gv {T T' : Tm} (h_ : TmE T T') : ∀ p q, T.gv p q = T'.gv p q := h_.2.2.2.1
theorem TmE.ha {T T' : Tm} (h_ : TmE T T') : ∀ q, T.ha q = T'.ha q := h_.2.2.2.2.1
theorem TmE.tw {T T' : Tm} (h_ : TmE T T') : ∀ q, T.tw q = T'.tw q := h_.2.2.2.2.2.1
theorem TmE.hr {T T' : Tm} (h_ : TmE T T') : ∀ p q, T.gv p q = true → T.hr p q = T'.hr p q := h_.2.2.2.2.2.2
theorem okB_E {T T' : Tm} (e : TmE T T') (fi : Nat → Bool) (pre : List Nat) (q : Nat) : okB T fi pre q = okB T' fi pre q := by
  have e1 : T.tw = T'.tw := funext e.tw
  cases pre with
  | nil => unfold okB; rw [e.ha]
  | cons p t => unfold okB; simp only [e.ha, e.gv, e.back, e1]
theorem ext_E {T T' : Tm} (e : TmE T T') (fi : Nat → Bool) : ∀ (j : Nat) (pre : List Nat), ext T fi j pre = ext T' fi j pre
  | 0, _ => rfl
  | j + 1, pre => by
    have h : (fun q => if okB T fi pre q then ext T fi j (q :: pre) else []) = (fun q => if okB T' fi pre q then ext T' fi j (q :: pre) else []) := by
      funext q
      rw [okB_E e fi pre q, ext_E e fi j (q :: pre)]
    show sib (fun q => if okB T fi pre q then ext T fi j (q :: pre) else []) T.P 0 = sib (fun q => if okB T' fi pre q then ext T' fi j (q :: pre) else []) T'.P 0
    rw [h, e.P]
theorem hoL_E {T T' : Tm} (e : TmE T T') : ∀ (r : List Nat), chN T r → hoL T r = hoL T' r
  | [], _ => rfl
  | [_], _ => rfl
  | q :: p :: t, h => by
    have a := hoL_E e (p :: t) h.2
    show hoL T (p :: t) + T.hr p q = hoL T' (p :: t) + T'.hr p q
    rw [a, e.hr p q h.1]
theorem bestF_some {T : Tm} {hit : List Nat → Bool} : ∀ (L : List (List Nat)) (c : Option (List Nat)), (bestF T hit L c).isSome = (c.isSome || L.any hit)
  | [], c => by show c.isSome = _; simp
  | r :: L, c => by
    show (bestF T hit L (if hit r && betterB T r c then some r else c)).isSome = _
    rw [bestF_some L]
    cases c with
    | none =>
      show ((if hit r && true then some r else none).isSome || L.any hit) = (false || (r :: L).any hit)
      cases z : hit r <;> simp [z]
    | some b =>
      have : (if hit r && betterB T r (some b) then some r else some b).isSome = true := by split <;> rfl
      rw [this]; simp
theorem any_E {A : Type} {f g : A → Bool} : ∀ (L : List A), (∀ x, x ∈ L → f x = g x) → L.any f = L.any g
  | [], _ => rfl
  | x :: L, h => by
    show (f x || L.any f) = (g x || L.any g)
    rw [h x (List.mem_cons_self ..), any_E L (fun y hy => h y (List.mem_cons_of_mem _ hy))]
theorem way_E {T T' : Tm} (e : TmE T T') (s : Nat → Int) (u v : Nat) : (wayO T s u v).isSome = (wayO T' s u v).isSome := by
  have a : allF T s u = allF T' s u := by unfold allF; rw [e.ha, e.ha]
  unfold wayO
  rw [a]
  split
  · unfold bestR
    rw [bestF_some, bestF_some]
    have hL : rowsL T (fiR s u) = rowsL T' (fiR s u) := by unfold rowsL; rw [e.n]; exact ext_E e (fiR s u) T'.n []
    rw [← hL]
    show (false || _) = (false || _)
    rw [Bool.false_or, Bool.false_or]
    refine any_E _ (fun r hr => ?_)
    have ho := hoL_E e r (ch_ext hr trivial)
    unfold hitS
    rw [ho]
  · rfl
theorem adjS_E {T T' : Tm} (e : TmE T T') (s : Nat → Int) : adjS T s = adjS T' s := by
  funext u v
  unfold adjS
  rw [way_E e s u v]
/-- MOST as a number -/
noncomputable def mostV (W : Nat) (adj : Nat → Nat → Bool) (U : Nat) : Nat := Classical.epsilon (fun v => IsMost W adj U v)
theorem mostV_eq {W U v : Nat} {adj : Nat → Nat → Bool} (h : IsMost W adj U v) : mostV W adj U = v := IsMost.uniq (Classical.epsilon_spec (p := fun v => IsMost W adj U v) ⟨v, h⟩) h
theorem IsMost.le {W U v : Nat} {adj : Nat → Nat → Bool} (h : IsMost W adj U v) : v ≤ W := by
  obtain ⟨X, _, b⟩ := h.2
  have := cntB_le X W
  omega
/-- one giving more, free and of one hour -/
def TmM (s : Nat → Int) (a b : Nat) : Tm := ⟨(TmS s).n, (TmS s).back, (TmS s).P, fun p q => (TmS s).gv p q || decide (p = a ∧ q = b), fun p q => if p = a ∧ q = b then 0 else (TmS s).pn p q, fun p q => if p = a ∧ q = b then 1 else (TmS s).hr p q, (TmS s).ak, (TmS s).ha, (TmS s).tw⟩
theorem TmM_gv {s : Nat → Int} {a b p q : Nat} : (TmM s a b).gv p q = true ↔ (TmS s).gv p q = true ∨ (p = a ∧ q = b) := by
  show ((TmS s).gv p q || decide (p = a ∧ q = b)) = true ↔ _
  rw [Bool.or_eq_true, decide_eq_true_eq]
theorem TmB_M {s : Nat → Int} (hb0 : TmB (TmS s)) {a b : Nat} (ab : a ≠ b) : TmB (TmM s a b) := (TmB.mk (hb0.P8) (hb0.n2) (hb0.n6) (fun p q => by
    show (if p = a ∧ q = b then 1 else (TmS s).hr p q) ≤ 9
    split
    · omega
    · exact hb0.hr9 p q) (fun p q => by
    show (if p = a ∧ q = b then 0 else (TmS s).pn p q) ≤ 99
    split
    · omega
    · exact hb0.pn9 p q) (hb0.ak9) (fun p => by
    show ((TmS s).gv p p || decide (p = a ∧ p = b)) = false
    rw [hb0.gvi p, decide_eq_false (by omega)]; rfl))
theorem CtT_M {vo mt tm ak pn hr s : Nat → Int} {wt : Int} {a b : Nat} (ha : a < 8) (hb : b < 8) (h7 : tm 7 = -1) (h : CtT vo mt tm ak pn hr wt (TmS s)) : CtT vo mt tm ak (up1 pn (8 * a + b) 0) (up1 hr (8 * a + b) 1) wt (TmM s a b) := by
  have P8 := h.P8
  refine (CtT.mk (h.P) (h.P8) (h.n) (h.n2) (h.n6) (h.back) (h.back3) (h.hands) (fun p q hp hq => ?_) (fun p q hp hq hg => ?_) (h.ak) (h.mates) (fun p q => ?_) (fun p q => ?_) (h.ak9) (h.wt0))
  · have hp : p < (TmS s).P := hp
    have hq : q < (TmS s).P := hq
    have g := h.gv p q hp hq
    rw [TmM_gv, up1_ap, ← g]
    clear g
    by_cases x : p = a ∧ q = b
    · rw [if_pos (by omega), h7, tb_neg1]
      have : p < 32 := by omega
      simp [x]; omega
    · rw [if_neg (by omega)]; simp [x]
  · have hp : p < (TmS s).P := hp
    have hq : q < (TmS s).P := hq
    show up1 pn (8 * a + b) 0 (8 * p + q) = ((if p = a ∧ q = b then 0 else (TmS s).pn p q : Nat) : Int) ∧ up1 hr (8 * a + b) 1 (8 * p + q) = ((if p = a ∧ q = b then 1 else (TmS s).hr p q : Nat) : Int)
    by_cases x : p = a ∧ q = b
    · have e : 8 * p + q = 8 * a + b := by omega
      rw [up1_ap, up1_ap, if_pos x, if_pos x, if_pos e, if_pos e]
      exact ⟨rfl, rfl⟩
    · have e : ¬ 8 * p + q = 8 * a + b := by omega
      rw [up1_ap, up1_ap, if_neg x, if_neg x, if_neg e, if_neg e]
      rcases TmM_gv.mp hg with g | g
      · exact h.pn p q hp hq g
      · exact absurd g x
  · show (if p = a ∧ q = b then 0 else (TmS s).pn p q) ≤ 99
    split
    · omega
    · exact h.pn9 p q
  · show (if p = a ∧ q = b then 1 else (TmS s).hr p q) ≤ 9
    split
    · omega
    · exact h.hr9 p q
/-- the fold over the pairs -/
noncomputable def moM (s : Nat → Int) (a b : Nat) : Nat := mostV (s 3).toNat (adjS (TmM s a b) s) (s 2).toNat
noncomputable def mstep (s : Nat → Int) (a b : Nat) (st : Nat × Int) : Nat × Int := if a = b ∨ s (269 + (8 * a + b)) = 1 then st else if st.1 < moM s a b then (moM s a b, ((10 * a + b : Nat) : Int)) else st
noncomputable def mrow (s : Nat → Int) (a : Nat) : Nat → Nat × Int → Nat × Int
  | 0, st => st
  | b + 1, st => mstep s a b (mrow s a b st)
noncomputable def mall (s : Nat → Int) (G : Nat) : Nat → Nat × Int
  | 0 => (G, -1)
  | a + 1 => mrow s a (s 0).toNat (mall s G a)
theorem mstep_full {s : Nat → Int} {a b : Nat} {st : Nat × Int} (h : ∀ a b, moM s a b ≤ (s 3).toNat) (hf : (s 3).toNat ≤ st.1) : mstep s a b st = st := by
  have := h a b
  unfold mstep
  split
  · rfl
  · rw [if_neg (by omega)]
theorem mrow_full {s : Nat → Int} {a : Nat} {st : Nat × Int} (h : ∀ a b, moM s a b ≤ (s 3).toNat) (hf : (s 3).toNat ≤ st.1) : ∀ b, mrow s a b st = st
  | 0 => rfl
  | b + 1 => by
    show mstep s a b (mrow s a b st) = st
    rw [mrow_full h hf b]; exact mstep_full h hf
theorem mall_full {s : Nat → Int} {G a : Nat} (h : ∀ a b, moM s a b ≤ (s 3).toNat) (hf : (s 3).toNat ≤ (mall s G a).1) : ∀ r, mall s G (a + r) = mall s G a
  | 0 => rfl
  | r + 1 => by
    show mrow s (a + r) (s 0).toNat (mall s G (a + r)) = mall s G a
    rw [mall_full h hf r]; exact mrow_full h hf _
