/-! the constructors, run: a world as the list of its stores -/
abbrev DL : Type := List (Nat × Option (Nat × Int))
abbrev ST : Type := Nat × DL
abbrev RS : Type := Option (MV × ST)
def lk : DL → Nat → Nat → Int
  | [], _, _ => 0
  | (h', o) :: t, h, i => if h' = h then (match o with
    | none => 0
    | some (i', v) => if i' = i then v else lk t h i) else lk t h i
def RelW (S : ST) (W : Wd) : Prop := (∀ h, h ≠ 400 → h ≠ 401 → ∀ i, W h i = lk S.2 h i) ∧ W 401 0 = (S.1 : Int)
def sU (S : ST) (h i : Nat) (v : Int) : ST := (S.1, (h, some (i, v)) :: S.2)
def sNw (S : ST) : ST := (S.1 + 1, (S.1, none) :: S.2)
def tokDn : Nat → DL → DL
  | 0, t => t
  | n + 1, t => (3, some (n, tokF n)) :: tokDn n t
def sT (S : ST) : ST := (S.1 + 1, (2, some (0, 1)) :: (2, some (1, 1)) :: tokDn 17 ((3, none) :: S.2))
def KF (w W : Wd) : Prop := W 400 = w 400 ∧ ∀ i, i ≠ 0 → W 401 i = w 401 i
theorem KF.r (w : Wd) : KF w w := ⟨rfl, fun _ _ => rfl⟩
theorem KF.t {a b c : Wd} (h : KF a b) (h2 : KF b c) : KF a c := ⟨h2.1.trans h.1, fun i hi => (h2.2 i hi).trans (h.2 i hi)⟩
theorem lk_u (t : DL) (h i c j : Nat) (v : Int) : lk ((h, some (i, v)) :: t) c j = if h = c then (if i = j then v else lk t c j) else lk t c j := rfl
theorem lk_n (t : DL) (h c j : Nat) : lk ((h, none) :: t) c j = if h = c then 0 else lk t c j := rfl
theorem RelW.ub {S : ST} {W : Wd} (r : RelW S W) {h i : Nat} {v : Int} (b : h ≠ 401) : RelW (sU S h i v) (ub W h i v) := by
  refine ⟨fun c c0 c1 j => ?_, ?_⟩
  · show _ = lk ((h, some (i, v)) :: S.2) c j
    rw [lk_u, ub_ap]
    by_cases e : c = h
    · subst e
      rw [if_pos rfl, if_pos rfl]
      by_cases e2 : j = i
      · rw [if_pos e2, if_pos e2.symm]
      · rw [if_neg e2, if_neg (fun z => e2 z.symm)]; exact r.1 c c0 c1 j
    · rw [if_neg e, if_neg (fun z => e z.symm)]; exact r.1 c c0 c1 j
  · rw [ub_ne _ _ (fun z => b z.symm)]; exact r.2
theorem mkNew_ap (w : Wd) (c : Nat) (hc : c ≠ 401) : mkNew w c = if c = (w 401 0).toNat then (fun _ => 0) else w c := by
  unfold mkNew
  rw [ub_ne _ _ hc]
  rfl
theorem mkNew_cc (w : Wd) : mkNew w 401 0 = w 401 0 + 1 := by
  unfold mkNew
  rw [ub_ap, if_pos rfl, if_pos rfl]
theorem RelW.nw {S : ST} {W : Wd} (r : RelW S W) : RelW (sNw S) (mkNew W) := by
  have e : (W 401 0).toNat = S.1 := by rw [r.2]; rfl
  refine ⟨fun c c0 c1 j => ?_, ?_⟩
  · show _ = lk ((S.1, none) :: S.2) c j
    rw [mkNew_ap W c c1, lk_n, e]
    by_cases z : c = S.1
    · rw [if_pos z, if_pos z.symm]
    · rw [if_neg z, if_neg (fun y => z y.symm)]; exact r.1 c c0 c1 j
  · rw [mkNew_cc, r.2]; rfl
theorem KF.ub {W : Wd} {h i : Nat} {v : Int} (a : h ≠ 400) (b : h ≠ 401) : KF W (ub W h i v) := ⟨ub_ne _ _ (fun z => a z.symm), fun j _ => by rw [ub_ne _ _ (fun z => b z.symm)]⟩
theorem mkNew_401 (w : Wd) (i : Nat) (hi : i ≠ 0) (a : (w 401 0).toNat < 400) : mkNew w 401 i = w 401 i := by
  unfold mkNew
  rw [ub_ap, if_pos rfl, if_neg hi]
  show (if 401 = (w 401 0).toNat then (fun _ => 0) else w 401) i = w 401 i
  rw [if_neg (by omega)]
theorem KF.nw {W : Wd} (a : (W 401 0).toNat < 400) : KF W (mkNew W) := ⟨by rw [mkNew_ap W 400 (by decide), if_neg (by omega)], fun i hi => mkNew_401 W i hi a⟩
theorem tokDn_3 (t : DL) (i : Nat) : ∀ n, lk (tokDn n t) 3 i = if i < n then tokF i else lk t 3 i
  | 0 => by rw [if_neg (Nat.not_lt_zero _)]; rfl
  | n + 1 => by
    show lk ((3, some (n, tokF n)) :: tokDn n t) 3 i = _
    rw [lk_u, if_pos rfl, tokDn_3 t i n]
    by_cases e : n = i
    · rw [if_pos e, if_pos (by omega), e]
    · rw [if_neg e]
      by_cases z : i < n
      · rw [if_pos z, if_pos (by omega)]
      · rw [if_neg z, if_neg (by omega)]
theorem tokDn_ne (t : DL) (h i : Nat) (hh : h ≠ 3) : ∀ n, lk (tokDn n t) h i = lk t h i
  | 0 => rfl
  | n + 1 => by
    show lk ((3, some (n, tokF n)) :: tokDn n t) h i = _
    rw [lk_u, if_neg (fun z => hh z.symm), tokDn_ne t h i hh n]
theorem RelW.tok {S : ST} {W : Wd} (r : RelW S W) (h3 : S.1 = 3) : RelW (sT S) (tokW W) := by
  have e : (W 401 0).toNat = 3 := by rw [r.2, h3]; rfl
  refine ⟨fun c c0 c1 j => ?_, ?_⟩
  · show _ = lk ((2, some (0, 1)) :: (2, some (1, 1)) :: tokDn 17 ((3, none) :: S.2)) c j
    unfold tokW
    by_cases e2 : c = 2
    · subst e2
      have l1 : lk (tokDn 17 ((3, none) :: S.2)) 2 j = W 2 j := by rw [tokDn_ne _ 2 j (by decide), lk_n, if_neg (by decide), ← r.1 2 (by decide) (by decide) j]
      have m1 : mkNew W 2 j = W 2 j := by rw [mkNew_ap W 2 (by decide), e, if_neg (by decide)]
      by_cases j0 : j = 0
      · subst j0; rfl
      · by_cases j1 : j = 1
        · subst j1; rfl
        · rw [ub_ap, if_pos rfl, if_neg j0, ub_ap, if_pos rfl, if_neg j1, ubf_ap, if_neg (by decide), m1, lk_u, if_pos rfl, if_neg (fun z => j0 z.symm), lk_u, if_pos rfl, if_neg (fun z => j1 z.symm), l1]
    · rw [lk_u, if_neg (fun z => e2 z.symm), lk_u, if_neg (fun z => e2 z.symm), ub_ap, if_neg e2, ub_ne _ _ e2, ubf_ap]
      by_cases e3 : c = 3
      · subst e3
        rw [if_pos rfl, tokDn_3, lk_n, if_pos rfl]
        by_cases z : j < 17
        · rw [if_pos z]
        · rw [if_neg z]; unfold tokF; rw [if_neg z]
      · rw [if_neg e3, mkNew_ap W c c1, e, if_neg e3, tokDn_ne _ c j e3, lk_n, if_neg (fun z => e3 z.symm)]
        exact r.1 c c0 c1 j
  · unfold tokW
    rw [ub_ne _ _ (by decide), ub_ne _ _ (by decide), ubf_ne _ (by decide), mkNew_cc, r.2]; rfl
theorem KF.tok {W : Wd} (a : (W 401 0).toNat < 400) : KF W (tokW W) := by
  unfold tokW
  refine KF.t ?_ (KF.t (KF.ub (by decide) (by decide)) (KF.ub (by decide) (by decide)))
  exact (KF.nw a).t ⟨ubf_ne _ (by decide), fun i _ => by rw [ubf_ne _ (by decide)]⟩
def vI (v : MV) : Option Int := match v with
  | some (.inl x) => some x
  | _ => none
def vL (v : MV) : Option Int := match v with
  | some (.inr (.inl x)) => some x
  | _ => none
def vR (v : MV) : Option Nat := match v with
  | some (.inr (.inr h)) => some h
  | _ => none
theorem vI_ok : ∀ {v : MV} {x : Int}, vI v = some x → v = mI x
  | some (.inl y), x, h => by
    have h : some y = some x := h
    injection h with h
    rw [h]
  | none, _, h => by cases h
  | some (.inr (.inl _)), _, h => by cases h
  | some (.inr (.inr _)), _, h => by cases h
theorem vL_ok : ∀ {v : MV} {x : Int}, vL v = some x → v = mL x
  | some (.inr (.inl y)), x, h => by
    have h : some y = some x := h
    injection h with h
    rw [h]
  | none, _, h => by cases h
  | some (.inl _), _, h => by cases h
  | some (.inr (.inr _)), _, h => by cases h
theorem vR_ok : ∀ {v : MV} {x : Nat}, vR v = some x → v = mR x
  | some (.inr (.inr y)), x, h => by
    have h : some y = some x := h
    injection h with h
    rw [h]
  | none, _, h => by cases h
  | some (.inl _), _, h => by cases h
  | some (.inr (.inl _)), _, h => by cases h
def uc (s : List MV) : Option (MV × List MV) := match s with
  | a :: t => some (a, t)
  | [] => none
theorem uc_ok : ∀ {s : List MV} {a : MV} {t : List MV}, uc s = some (a, t) → s = a :: t
  | b :: u, a, t, h => by
    have h : some (b, u) = some (a, t) := h
    injection h with h
    injection h with h1 h2
    rw [h1, h2]
  | [], _, _, h => by cases h
theorem bO {α β : Type} {o : Option α} {f : α → Option β} {b : β} (h : o.bind f = some b) : ∃ a, o = some a ∧ f a = some b := by
  cases o with
  | none => cases h
  | some a => exact ⟨a, rfl, h⟩
theorem iO {c : Prop} [Decidable c] {α : Type} {x : Option α} {b : α} (h : (if c then x else none) = some b) : c ∧ x = some b := by
  by_cases z : c
  · rw [if_pos z] at h; exact ⟨z, h⟩
  · rw [if_neg z] at h; cases h
def pI (s : List MV) : Option (Int × List MV) := (uc s).bind fun a => (vI a.1).bind fun x => some (x, a.2)
def pL (s : List MV) : Option (Int × List MV) := (uc s).bind fun a => (vL a.1).bind fun x => some (x, a.2)
def pR (s : List MV) : Option (Nat × List MV) := (uc s).bind fun a => (vR a.1).bind fun x => some (x, a.2)
theorem pI_ok {s t : List MV} {x : Int} (h : pI s = some (x, t)) : s = mI x :: t := by
  obtain ⟨⟨a, u⟩, h1, h⟩ := bO h
  obtain ⟨y, h2, h⟩ := bO h
  injection h with h
  injection h with h3 h4
  have h4 : u = t := h4
  have e2 := vI_ok h2
  rw [uc_ok h1, show a = _ from e2, h3, h4]
theorem pL_ok {s t : List MV} {x : Int} (h : pL s = some (x, t)) : s = mL x :: t := by
  obtain ⟨⟨a, u⟩, h1, h⟩ := bO h
  obtain ⟨y, h2, h⟩ := bO h
  injection h with h
  injection h with h3 h4
  have h4 : u = t := h4
  have e2 := vL_ok h2
  rw [uc_ok h1, show a = _ from e2, h3, h4]
theorem pR_ok {s t : List MV} {x : Nat} (h : pR s = some (x, t)) : s = mR x :: t := by
  obtain ⟨⟨a, u⟩, h1, h⟩ := bO h
  obtain ⟨y, h2, h⟩ := bO h
  injection h with h
  injection h with h3 h4
  have h4 : u = t := h4
  have e2 := vR_ok h2
  rw [uc_ok h1, show a = _ from e2, h3, h4]
def Gx (call : Nat → List MV → ST → RS) (cd : List Ent) (pr : Pr) : Nat → Nat → List MV → List MV → ST → RS
  | 0, _, _, _, _ => none
  | f + 1, i, l, s, w => match nthA nE cd i with
    | (_, ins, _, aux, c) => match ins with
      | .iconst _ => Gx call cd pr f (i + 1) l (mI c :: s) w
      | .bipush _ => Gx call cd pr f (i + 1) l (mI c :: s) w
      | .sipush _ => Gx call cd pr f (i + 1) l (mI c :: s) w
      | .ldc2_w _ => Gx call cd pr f (i + 1) l (mL c :: s) w
      | .iload_n _ => (vI (nthA none l (a0 aux))).bind fun x => Gx call cd pr f (i + 1) l (mI x :: s) w
      | .aload_n _ => (vR (nthA none l (a0 aux))).bind fun h => Gx call cd pr f (i + 1) l (mR h :: s) w
      | .istore_n _ => (pI s).bind fun x => Gx call cd pr f (i + 1) (stI l (a0 aux) (mI x.1)) x.2 w
      | .iinc _ _ => (vI (nthA none l (a0 aux))).bind fun x => Gx call cd pr f (i + 1) (stI l (a0 aux) (mI (w32 (x + c)))) s w
      | .dup => (pR s).bind fun x => Gx call cd pr f (i + 1) l (mR x.1 :: mR x.1 :: x.2) w
      | .goto _ => Gx call cd pr f (a0 aux) l s w
      | .if_icmp cnd _ => (pI s).bind fun y => (pI y.2).bind fun x => if cndB cnd x.1 y.1 = true then Gx call cd pr f (a0 aux) l x.2 w else Gx call cd pr f (i + 1) l x.2 w
      | .arraylength => (pR s).bind fun h => if kd h.1 = 20 ∧ h.1 < 400 then Gx call cd pr f (i + 1) l (mI (szI h.1) :: h.2) w else none
      | .getfield _ => (pR s).bind fun h => if ((kd h.1 = a0 aux ∧ fty (a0 aux) (a1 aux) = 2) ∧ (¬ pr.2.1 = 0 ∧ h.1 < 400)) ∧ ¬ lk w.2 h.1 (a1 aux) = 0 then Gx call cd pr f (i + 1) l (mR (gr h.1 (a1 aux)) :: h.2) w else none
      | .putfield _ => if fty (a0 aux) (a1 aux) = 2 then ((pR s).bind fun g => (pR g.2).bind fun h => if (kd h.1 = a0 aux ∧ h.1 < 400) ∧ (pr.2.1 = 1 ∧ gr h.1 (a1 aux) = g.1) then Gx call cd pr f (i + 1) l h.2 (sU w h.1 (a1 aux) 1) else none)
          else ((pI s).bind fun x => (pR x.2).bind fun h => if (kd h.1 = a0 aux ∧ h.1 < 400) ∧ (fty (a0 aux) (a1 aux) = 0 ∨ (fty (a0 aux) (a1 aux) = 3 ∧ (x.1 = 0 ∨ x.1 = 1))) then Gx call cd pr f (i + 1) l h.2 (sU w h.1 (a1 aux) x.1) else none)
      | .iastore => (pI s).bind fun x => (pI x.2).bind fun j => (pR j.2).bind fun h => if (kd h.1 = 20 ∧ h.1 < 400) ∧ (0 ≤ j.1 ∧ j.1 < szI h.1) then Gx call cd pr f (i + 1) l h.2 (sU w h.1 j.1.toNat x.1) else none
      | .lastore => (pL s).bind fun x => (pI x.2).bind fun j => (pR j.2).bind fun h => if (kd h.1 = 21 ∧ h.1 < 400) ∧ (0 ≤ j.1 ∧ j.1 < szI h.1) then Gx call cd pr f (i + 1) l h.2 (sU w h.1 j.1.toNat x.1) else none
      | .aastore => (pR s).bind fun g => (pI g.2).bind fun j => (pR j.2).bind fun h => if ((kd h.1 = 24 ∧ h.1 < 400) ∧ pr.2.1 = 1) ∧ ((0 ≤ j.1 ∧ j.1 < szI h.1) ∧ gr h.1 j.1.toNat = g.1 ∧ kd g.1 = 2) then Gx call cd pr f (i + 1) l h.2 (sU w h.1 j.1.toNat 1) else none
      | .new _ => if (kd w.1 = a0 aux ∧ a0 aux < 20) ∧ ((0 < pr.2.1 ∧ (w.1 : Int) < pr.2.2) ∧ w.1 < 400) then Gx call cd pr f (i + 1) l (mR w.1 :: s) (sNw w) else none
      | .newarray _ => (pI s).bind fun x => if (kd w.1 = a0 aux ∧ szI w.1 = x.1) ∧ ((0 < pr.2.1 ∧ (w.1 : Int) < pr.2.2) ∧ w.1 < 400 ∧ ¬ w.1 = 185) then Gx call cd pr f (i + 1) l (mR w.1 :: x.2) (sNw w) else none
      | .anewarray _ => (pI s).bind fun x => if (kd w.1 = 24 ∧ szI w.1 = x.1) ∧ ((0 < pr.2.1 ∧ (w.1 : Int) < pr.2.2) ∧ w.1 < 400) then Gx call cd pr f (i + 1) l (mR w.1 :: x.2) (sNw w) else none
      | .invokestatic _ => if a0 aux = 1 ∧ ((catS (s.drop (a2 aux)) ≤ 8 ∧ a2 aux ≤ s.length) ∧ phM (a1 aux) = 3 ∧ rkM (a1 aux) = 0) then
          ((call (a1 aux) (s.take (a2 aux)).reverse w).bind fun q => Gx call cd pr f (i + 1) l (s.drop (a2 aux)) q.2) else none
      | .invokespecial _ => if a0 aux = 20 then ((pR s).bind fun h => if catS h.2 ≤ 8 then Gx call cd pr f (i + 1) l h.2 w else none)
          else if ((catS (s.drop (a2 aux + 1)) ≤ 8 ∧ rcvK (nthA none s (a2 aux)) < 20) ∧ (phM (a1 aux) = 1 ∧ rkM (a1 aux) = 0)) ∧ (0 < pr.2.1 ∧ (w.1 : Int) + (nAl (a1 aux) : Int) ≤ pr.2.2) then
          ((call (a1 aux) (s.take (a2 aux + 1)).reverse w).bind fun q => Gx call cd pr f (i + 1) l (s.drop (a2 aux + 1)) q.2) else none
      | .return_ => match s with
        | [] => if pr.1 = 0 then some (none, w) else none
        | _ => none
      | _ => none
def Cx : Nat → Nat → List MV → ST → RS
  | 0, _, _, _ => none
  | d + 1, j, argv, w => if j = 1 then (if argv = [mR 2, mR 1] ∧ w.1 = 3 then some (none, sT w) else none) else if 279 ≤ j then none
    else if (fArgs argv).length ≤ mxM j then ((Gx (Cx d) (cdM j) (rkM j, phM j, (w.1 : Int) + (nAl j : Int)) 4000 0 (mkLoc (mxM j) argv) [] w).bind fun q => if phM j = 1 → q.2.1 = w.1 + nAl j then some q else none) else none
theorem alen_rel {W : Wd} {h : Nat} (hh : h < 400) : alen W h = szI h := by
  unfold alen
  rw [if_neg (by omega)]
theorem Gx_ok {cw : CWt} (hm : ∀ j a w (Q Q' : MV → Wd → Prop), (∀ r w, Q r w → Q' r w) → cw j a w Q → cw j a w Q') {call : Nat → List MV → ST → RS} (hc : ∀ j argv (w : ST) r (w' : ST), call j argv w = some (r, w') → ∀ W (Q : MV → Wd → Prop), RelW w W → (∀ W', RelW w' W' → KF W W' → Q r W') → cw j argv W Q) {cd : List Ent} {pr : Pr} : ∀ (f i : Nat) (l s : List MV) (w : ST) (r : MV) (w' : ST), Gx call cd pr f i l s w = some (r, w') → ∀ W (Q : MV → Wd → Prop), RelW w W → (∀ W', RelW w' W' → KF W W' → Q r W') → Wp cw cd pr Q i l s W := by
  intro f
  induction f with
  | zero => intro i l s w r w' h; cases h
  | succ f ih =>
    intro i l s w r w' h W Q hr k
    apply Wp.st hm
    unfold Gx at h
    unfold F
    generalize nthA nE cd i = e at *
    obtain ⟨_, ins, _, aux, c⟩ := e
    cases ins <;> dsimp only at h ⊢
    case iconst => exact ih _ _ _ _ _ _ h W Q hr k
    case bipush => exact ih _ _ _ _ _ _ h W Q hr k
    case sipush => exact ih _ _ _ _ _ _ h W Q hr k
    case ldc2_w => exact ih _ _ _ _ _ _ h W Q hr k
    case goto => exact ih _ _ _ _ _ _ h W Q hr k
    case iload_n =>
      obtain ⟨x, h1, h⟩ := bO h
      rw [vI_ok h1]
      exact ih _ _ _ _ _ _ h W Q hr k
    case aload_n =>
      obtain ⟨x, h1, h⟩ := bO h
      rw [vR_ok h1]
      exact ih _ _ _ _ _ _ h W Q hr k
    case iinc =>
      obtain ⟨x, h1, h⟩ := bO h
      rw [vI_ok h1]
      exact ih _ _ _ _ _ _ h W Q hr k
    case istore_n =>
      obtain ⟨⟨x, t⟩, h1, h⟩ := bO h
      rw [pI_ok h1]
      exact ih _ _ _ _ _ _ h W Q hr k
    case dup =>
      obtain ⟨⟨x, t⟩, h1, h⟩ := bO h
      rw [pR_ok h1]
      exact ih _ _ _ _ _ _ h W Q hr k
    case if_icmp cnd _ =>
      obtain ⟨⟨y, t⟩, h1, h⟩ := bO h
      obtain ⟨⟨x, u⟩, h2, h⟩ := bO h
      rw [pI_ok h1, show t = mI x :: u from pI_ok h2]
      dsimp only at h ⊢
      refine ⟨fun z => ?_, fun z => ?_⟩
      · rw [if_pos ((cnd_iff cnd x y).mp z)] at h
        exact ih _ _ _ _ _ _ h W Q hr k
      · rw [if_neg (fun q => z ((cnd_iff cnd x y).mpr q))] at h
        exact ih _ _ _ _ _ _ h W Q hr k
    case arraylength =>
      obtain ⟨⟨x, t⟩, h1, h⟩ := bO h
      obtain ⟨c1, h⟩ := iO h
      rw [pR_ok h1]
      dsimp only at c1 h ⊢
      rw [if_pos (Or.inl c1.1), alen_rel c1.2]
      exact ih _ _ _ _ _ _ h W Q hr k
    case getfield =>
      obtain ⟨⟨x, t⟩, h1, h⟩ := bO h
      obtain ⟨⟨⟨c1, c2⟩, c3⟩, h⟩ := iO h
      rw [pR_ok h1]
      dsimp only at c1 c2 c3 h ⊢
      rw [if_pos c1.1, if_pos c1.2, if_neg c2.1, hr.1 x (by omega) (by omega)]
      exact ⟨c3, ih _ _ _ _ _ _ h W Q hr k⟩
    case putfield =>
      by_cases z : fty (a0 aux) (a1 aux) = 2
      · rw [if_pos z] at h
        obtain ⟨⟨g, t⟩, h1, h⟩ := bO h
        obtain ⟨⟨x, u⟩, h2, h⟩ := bO h
        obtain ⟨⟨c1, c2⟩, h⟩ := iO h
        rw [pR_ok h1, show t = mR x :: u from pR_ok h2]
        dsimp only at c1 c2 h ⊢
        rw [if_pos c1.1, if_pos z, if_pos c2.1]
        exact ⟨c2.2, ih _ _ _ _ _ _ h _ Q (hr.ub (by omega)) (fun W' a b => k W' a ((KF.ub (by omega) (by omega)).t b))⟩
      · rw [if_neg z] at h
        obtain ⟨⟨y, t⟩, h1, h⟩ := bO h
        obtain ⟨⟨x, u⟩, h2, h⟩ := bO h
        obtain ⟨⟨c1, c2⟩, h⟩ := iO h
        rw [pI_ok h1, show t = mR x :: u from pR_ok h2]
        dsimp only at c1 c2 h ⊢
        have G := ih _ _ _ _ _ _ h (ub W x (a1 aux) y) Q (hr.ub (by omega)) (fun W' a b => k W' a ((KF.ub (by omega) (by omega)).t b))
        rw [if_pos c1.1]
        by_cases z0 : fty (a0 aux) (a1 aux) = 0
        · rw [if_pos z0]; exact G
        · have c3 := c2.resolve_left z0
          rw [if_neg z0, if_pos c3.1]; exact ⟨c3.2, G⟩
    case iastore =>
      obtain ⟨⟨y, t⟩, h1, h⟩ := bO h
      obtain ⟨⟨j, v⟩, h3, h⟩ := bO h
      obtain ⟨⟨x, u⟩, h2, h⟩ := bO h
      obtain ⟨⟨c1, c2⟩, h⟩ := iO h
      rw [pI_ok h1, show t = mI j :: v from pI_ok h3, show v = mR x :: u from pR_ok h2]
      dsimp only at c1 c2 h ⊢
      rw [if_pos c1.1, alen_rel c1.2]
      exact ⟨c2, ih _ _ _ _ _ _ h _ Q (hr.ub (by omega)) (fun W' a b => k W' a ((KF.ub (by omega) (by omega)).t b))⟩
    case lastore =>
      obtain ⟨⟨y, t⟩, h1, h⟩ := bO h
      obtain ⟨⟨j, v⟩, h3, h⟩ := bO h
      obtain ⟨⟨x, u⟩, h2, h⟩ := bO h
      obtain ⟨⟨c1, c2⟩, h⟩ := iO h
      rw [pL_ok h1, show t = mI j :: v from pI_ok h3, show v = mR x :: u from pR_ok h2]
      dsimp only at c1 c2 h ⊢
      rw [if_pos c1.1, alen_rel c1.2]
      exact ⟨c2, ih _ _ _ _ _ _ h _ Q (hr.ub (by omega)) (fun W' a b => k W' a ((KF.ub (by omega) (by omega)).t b))⟩
    case aastore =>
      obtain ⟨⟨y, t⟩, h1, h⟩ := bO h
      obtain ⟨⟨j, v⟩, h3, h⟩ := bO h
      obtain ⟨⟨x, u⟩, h2, h⟩ := bO h
      obtain ⟨⟨c1, c2⟩, h⟩ := iO h
      rw [pR_ok h1, show t = mI j :: v from pI_ok h3, show v = mR x :: u from pR_ok h2]
      dsimp only at c1 c2 h ⊢
      rw [if_pos c1.1.1, if_pos c1.2, alen_rel c1.1.2]
      exact ⟨c2.1, c2.2.1, c2.2.2, ih _ _ _ _ _ _ h _ Q (hr.ub (by omega)) (fun W' a b => k W' a ((KF.ub (by omega) (by omega)).t b))⟩
    case new =>
      obtain ⟨⟨c1, c2⟩, h⟩ := iO h
      have lt : (W 401 0).toNat < 400 := by rw [hr.2]; exact c2.2
      have e0 : (W 401 0).toNat = w.1 := by rw [hr.2]; rfl
      rw [e0, hr.2]
      exact ⟨c1.1, c1.2, c2.1, ih _ _ _ _ _ _ h _ Q hr.nw (fun W' a b => k W' a ((KF.nw lt).t b))⟩
    case newarray =>
      obtain ⟨⟨x, t⟩, h1, h⟩ := bO h
      obtain ⟨⟨c1, c2⟩, h⟩ := iO h
      have lt : (W 401 0).toNat < 400 := by rw [hr.2]; exact c2.2.1
      have e0 : (W 401 0).toNat = w.1 := by rw [hr.2]; rfl
      rw [pI_ok h1]
      dsimp only at c1 c2 h ⊢
      rw [e0, hr.2]
      exact ⟨c1.1, c1.2, c2.1, fun z => absurd (by omega) c2.2.2, ih _ _ _ _ _ _ h _ Q hr.nw (fun W' a b => k W' a ((KF.nw lt).t b))⟩
    case anewarray =>
      obtain ⟨⟨x, t⟩, h1, h⟩ := bO h
      obtain ⟨⟨c1, c2⟩, h⟩ := iO h
      have lt : (W 401 0).toNat < 400 := by rw [hr.2]; exact c2.2
      have e0 : (W 401 0).toNat = w.1 := by rw [hr.2]; rfl
      rw [pI_ok h1]
      dsimp only at c1 c2 h ⊢
      rw [e0, hr.2]
      exact ⟨c1.1, c1.2, c2.1, ih _ _ _ _ _ _ h _ Q hr.nw (fun W' a b => k W' a ((KF.nw lt).t b))⟩
    case invokestatic =>
      obtain ⟨⟨c1, c2, c3, c4⟩, h⟩ := iO h
      obtain ⟨⟨r1, w1⟩, h1, h⟩ := bO h
      rw [c1]
      dsimp only at h ⊢
      rw [if_pos c2, if_pos (Or.inl c3), c4]
      exact hc _ _ _ _ _ h1 W _ hr (fun W1 a b => ih _ _ _ _ _ _ h W1 Q a (fun W' a2 b2 => k W' a2 (b.t b2)))
    case invokespecial =>
      by_cases z : a0 aux = 20
      · rw [if_pos z] at h
        obtain ⟨⟨x, t⟩, h1, h⟩ := bO h
        obtain ⟨c1, h⟩ := iO h
        rw [z, pR_ok h1]
        dsimp only at c1 h ⊢
        rw [if_pos c1]
        exact ih _ _ _ _ _ _ h W Q hr k
      · rw [if_neg z] at h
        obtain ⟨⟨⟨c1, c2⟩, c3⟩, h⟩ := iO h
        obtain ⟨⟨r1, w1⟩, h1, h⟩ := bO h
        split
        · rename_i q; exact absurd q z
        · rw [if_pos c1, if_pos c2, hr.2]
          exact ⟨c3, hc _ _ _ _ _ h1 W _ hr (fun W1 a b => ih _ _ _ _ _ _ h W1 Q a (fun W' a2 b2 => k W' a2 (b.t b2)))⟩
    case return_ =>
      cases s with
      | nil =>
        have h := iO h
        injection h.2 with h2
        injection h2 with h3 h4
        dsimp only
        rw [if_pos h.1]
        rw [h3]
        exact k W (by rw [← h4]; exact hr) (KF.r W)
      | cons a t => cases h
    all_goals cases h
theorem Cx_ok : ∀ (d j : Nat) (argv : List MV) (w : ST) (r : MV) (w' : ST), Cx d j argv w = some (r, w') → ∀ W (Q : MV → Wd → Prop), RelW w W → (∀ W', RelW w' W' → KF W W' → Q r W') → Cw d j argv W Q
  | 0, _, _, _, _, _, h => by cases h
  | d + 1, j, argv, w, r, w', h => by
    intro W Q hr k
    unfold Cx at h
    unfold Cw
    by_cases j1 : j = 1
    · rw [if_pos j1] at h ⊢
      obtain ⟨c1, h⟩ := iO h
      injection h with h
      injection h with h3 h4
      refine ⟨c1.1, by rw [hr.2, c1.2]; rfl, ?_⟩
      rw [h3]
      refine k _ (by rw [← h4]; exact hr.tok c1.2) (KF.tok ?_)
      rw [hr.2, c1.2]; decide
    · rw [if_neg j1] at h ⊢
      by_cases j2 : 279 ≤ j
      · rw [if_pos j2] at h; cases h
      · rw [if_neg j2] at h
        rw [if_neg (by omega), if_neg (by omega), if_neg (by omega), if_neg (by omega)]
        obtain ⟨c1, h⟩ := iO h
        obtain ⟨⟨r1, w1⟩, h1, h⟩ := bO h
        obtain ⟨c2, h⟩ := iO h
        injection h with h
        injection h with h3 h4
        subst h3 h4
        refine ⟨c1, ?_⟩
        rw [hr.2]
        refine Gx_ok (fun j a w Q Q' => Cw_mono d j a w Q Q') (fun j argv w r w' => Cx_ok d j argv w r w') 4000 0 _ _ w r1 w1 h1 W _ hr (fun W' a b => ?_)
        by_cases z : phM j = 1
        · rw [if_pos z]
          exact ⟨by rw [a.2, c2 z]; exact Int.natCast_add .., k W' a b⟩
        · rw [if_neg z]; exact k W' a b
