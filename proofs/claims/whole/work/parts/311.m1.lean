/-! who asks x, all others as they do -/
def TmK (T : Tm) (a x : Nat) : Tm := ⟨T.n, T.back, T.P, T.gv, T.pn, T.hr, upN T.ak a x, T.ha, T.tw⟩
theorem TmE_K (T : Tm) (a x : Nat) : TmE (TmK T a x) T := (TmE.mk (rfl) (rfl) (rfl) (fun _ _ => rfl) (fun _ => rfl) (fun _ => rfl) (fun _ _ _ => rfl))
theorem TmB_K {T : Tm} (hb : TmB T) (a : Nat) {x : Nat} (hx : x ≤ 99) : TmB (TmK T a x) := (TmB.mk (hb.P8) (hb.n2) (hb.n6) (hb.hr9) (hb.pn9) (fun q => by
  show upN T.ak a x q ≤ 99
  rw [upN_ap]
  by_cases z : q = a
  · rw [if_pos z]; exact hx
  · rw [if_neg z]; exact hb.ak9 q) (hb.gvi))
theorem paL_K (T : Tm) (a x : Nat) : ∀ r : List Nat, paL (TmK T a x) r = paL T r
  | [] => rfl
  | [_] => rfl
  | q :: p :: t => by
    have h := paL_K T a x (p :: t)
    show paL (TmK T a x) (p :: t) + T.pn p q = paL T (p :: t) + T.pn p q
    rw [h]
theorem hoL_K (T : Tm) (a x : Nat) : ∀ r : List Nat, hoL (TmK T a x) r = hoL T r
  | [] => rfl
  | [_] => rfl
  | q :: p :: t => by
    have h := hoL_K T a x (p :: t)
    show hoL (TmK T a x) (p :: t) + T.hr p q = hoL T (p :: t) + T.hr p q
    rw [h]
theorem asL_K (T : Tm) (a x : Nat) : ∀ r : List Nat, asL (TmK T a x) r = asL (TmK T a 0) r + x * tmW T.n a r
  | [] => rfl
  | [_] => rfl
  | q :: p :: t => by
    have h := asL_K T a x (p :: t)
    show asL (TmK T a x) (p :: t) + (if (p :: t).length < T.n - 1 then upN T.ak a x q else 0) = asL (TmK T a 0) (p :: t) + (if (p :: t).length < T.n - 1 then upN T.ak a 0 q else 0) + x * (tmW T.n a (p :: t) + (if (p :: t).length < T.n - 1 ∧ ((q : Nat) : Int) = (a : Int) then 1 else 0))
    rw [h, upN_ap, upN_ap, Nat.mul_add]
    by_cases z1 : (p :: t).length < T.n - 1
    · rw [if_pos z1, if_pos z1]
      by_cases z2 : q = a
      · rw [if_pos z2, if_pos z2, if_pos ⟨z1, by omega⟩]; omega
      · rw [if_neg z2, if_neg z2, if_neg (fun y => z2 (by omega))]; omega
    · rw [if_neg z1, if_neg z1, if_neg (fun y => z1 y.1)]; omega
theorem coL_K (T : Tm) (a x : Nat) (r : List Nat) : coL (TmK T a x) r = coL (TmK T a 0) r + x * tmW T.n a r := by
  unfold coL
  rw [paL_K, paL_K, asL_K]; omega
theorem keyW_K (T : Tm) (a x : Nat) : keyW (TmK T a 0) (a : Int) x = keyL (TmK T a x) := by
  funext r
  unfold keyW keyL
  have e := coL_K T a x r
  have e2 : (TmK T a 0).n = T.n := rfl
  rw [hoL_K, hoL_K, e, e2]
  generalize tmW T.n (a : Int) r = t
  generalize coL (TmK T a 0) r = c
  have : ((c + x * t : Nat) : Int) * 16777216 = (c : Int) * 16777216 + ((x * t : Nat) : Int) * 16777216 := by
    rw [Int.natCast_add, Int.add_mul]
  omega
theorem rowsO_E {T T' : Tm} (e : TmE T T') (s : Nat → Int) (u : Nat) : rowsO T s u = rowsO T' s u := by
  have a : allF T s u = allF T' s u := by unfold allF; rw [e.ha, e.ha]
  unfold rowsO
  rw [a]
  have hL : rowsL T (fiR s u) = rowsL T' (fiR s u) := by unfold rowsL; rw [e.n]; exact ext_E e (fiR s u) T'.n []
  rw [hL]
theorem hitS_K (T : Tm) (a x : Nat) (s : Nat → Int) (u v : Nat) : hitS (TmK T a x) s u v = hitS T s u v := by
  funext r
  unfold hitS
  rw [hoL_K]
theorem tmW_len (n : Nat) (wt : Int) : ∀ r : List Nat, tmW n wt r ≤ r.length
  | [] => Nat.le_refl _
  | [_] => Nat.zero_le _
  | q :: p :: t => by
    have h := tmW_len n wt (p :: t)
    show tmW n wt (p :: t) + (if (p :: t).length < n - 1 ∧ (q : Int) = wt then 1 else 0) ≤ _
    simp only [List.length_cons] at h ⊢
    split <;> omega
/-- how often one comes, in the way taken, in the day -/
def tmO (n : Nat) (a : Int) : Option (List Nat) → Nat
  | none => 0
  | some b => tmW n a b
def tmS (T : Tm) (s : Nat → Int) (a : Nat) (u v : Nat) : Nat := tmO T.n (a : Int) (wayO T s u v)
def TmsR (s : Nat → Int) (T : Tm) (a : Nat) (n : Nat) : Prop := ∃ (top : Int) (f : Nat → Nat), IsMax (s 3).toNat (adjP (woS s) (adjS T s) (coS T s)) (cL (netD (woS s) (coS T s))) (s 2).toNat top ∧ (∀ v, v < 8 → top / (32 ^ (7 - v)) % 32 = f v) ∧ (n : Int) = sumZ 8 (painS (tmS T s a) f)
theorem TmsR.uniq {s : Nat → Int} {T : Tm} {a n m : Nat} (h : TmsR s T a n) (g : TmsR s T a m) : n = m := by
  obtain ⟨t, f, a1, a2, a3⟩ := h
  obtain ⟨t', f', b1, b2, b3⟩ := g
  have e := a1.uniq b1
  subst e
  have : sumZ 8 (painS (tmS T s a) f) = sumZ 8 (painS (tmS T s a) f') := sumZ_ext (fun i hi => by
    have x := a2 i hi
    have y := b2 i hi
    unfold painS
    rw [show f i = f' i by omega])
  omega
theorem max_ex (P : Int → Prop) (B : Int) (h0 : ∃ v, P v) (hb : ∀ v, P v → v ≤ B) : ∃ v, P v ∧ ∀ v', P v' → v' ≤ v := by
  obtain ⟨v, hv⟩ := h0
  have go : ∀ (m : Nat) (v : Int), P v → B - v ≤ m → ∃ v, P v ∧ ∀ v', P v' → v' ≤ v := by
    intro m
    induction m with
    | zero =>
      intro v hv hm
      exact ⟨v, hv, fun v' hv' => by have := hb v' hv'; omega⟩
    | succ m ih =>
      intro v hv hm
      by_cases z : ∃ v', P v' ∧ v < v'
      · obtain ⟨v', a, b⟩ := z
        exact ih v' a (by omega)
      · refine ⟨v, hv, fun v' hv' => ?_⟩
        by_cases q : v < v'
        · exact absurd ⟨v', hv', q⟩ z
        · omega
  exact go (B - v).toNat v hv (by omega)
theorem isMax_ex {T : Tm} {s : Nat → Int} (ws : WS s) : ∃ top, IsMax (s 3).toNat (adjP (woS s) (adjS T s) (coS T s)) (cL (netD (woS s) (coS T s))) (s 2).toNat top := by
  obtain ⟨v, ⟨f, a, b⟩, c⟩ := max_ex (fun v => ∃ f, valid (s 3).toNat (adjP (woS s) (adjS T s) (coS T s)) (s 2).toNat f ∧ val (cL (netD (woS s) (coS T s))) f = v) 9223372036854775808 ⟨_, _, valid_zero _ _ _, rfl⟩ (fun v hv => by
    obtain ⟨f, a, b⟩ := hv
    have bd := val_adjP (A := adjP (woS s) (adjS T s) (coS T s)) (fun _ _ z => z) (fun v hv => by
      have := ws.worth v (by omega)
      unfold woS; omega) a
    omega)
  exact ⟨v, fun f hf => c _ ⟨f, hf, rfl⟩, f, a, b⟩
theorem TmsR.ex {s : Nat → Int} (ws : WS s) (T : Tm) (a : Nat) : ∃ n, TmsR s T a n := by
  obtain ⟨top, h⟩ := isMax_ex (T := T) ws
  obtain ⟨f, _, _, _, _, _, _, _, v8⟩ := top_day ws h
  obtain ⟨n, hn⟩ := Int.eq_ofNat_of_zero_le (show 0 ≤ sumZ 8 (painS (tmS T s a) f) from sumZ_nonneg (fun i _ => by unfold painS; split <;> omega))
  exact ⟨n, top, f, h, v8, hn.symm⟩
noncomputable def tmsV (s : Nat → Int) (T : Tm) (a : Nat) : Nat := Classical.epsilon (fun n => TmsR s T a n)
theorem tmsV_eq {s : Nat → Int} {T : Tm} {a n : Nat} (h : TmsR s T a n) : tmsV s T a = n := TmsR.uniq (Classical.epsilon_spec (p := fun n => TmsR s T a n) ⟨n, h⟩) h
theorem tmsV_spec {s : Nat → Int} (ws : WS s) (T : Tm) (a : Nat) : TmsR s T a (tmsV s T a) := Classical.epsilon_spec (p := fun n => TmsR s T a n) (TmsR.ex ws T a)
/-- the greatest sum is over all that may be met -/
theorem max_net {T : Tm} {s : Nat → Int} (ws : WS s) {top : Int} (h : IsMax (s 3).toNat (adjP (woS s) (adjS T s) (coS T s)) (cL (netD (woS s) (coS T s))) (s 2).toNat top) {f : Nat → Nat} (hf : valid (s 3).toNat (adjS T s) (s 2).toNat f) : netS (netD (woS s) (coS T s)) f ≤ top / 17592186044416 := by
  -- those of loss left out
  have hv : valid (s 3).toNat (adjP (woS s) (adjS T s) (coS T s)) (s 2).toNat (fun v => if 0 ≤ netD (woS s) (coS T s) (16 - f v) v then f v else 0) := by
    refine ⟨fun v hv => ?_, fun v v' hv e => ?_⟩
    · by_cases z : 0 ≤ netD (woS s) (coS T s) (16 - f v) v
      · simp only [if_pos z] at hv ⊢
        obtain ⟨a, b, c, e⟩ := hf.1 v hv
        refine ⟨a, b, c, ?_⟩
        unfold adjP
        rw [e, decide_eq_true z]; rfl
      · simp only [if_neg z] at hv
        exact absurd rfl hv
    · by_cases z : 0 ≤ netD (woS s) (coS T s) (16 - f v) v
      · by_cases z' : 0 ≤ netD (woS s) (coS T s) (16 - f v') v'
        · simp only [if_pos z, if_pos z'] at hv e
          exact hf.2 v v' hv e
        · simp only [if_pos z, if_neg z'] at hv e
          exact absurd e hv
      · simp only [if_neg z] at hv
        exact absurd rfl hv
  have r := top_read hv
  have m := h.1 _ hv
  have e := r.2.1
  have le : netS (netD (woS s) (coS T s)) f ≤ netS (netD (woS s) (coS T s)) (fun v => if 0 ≤ netD (woS s) (coS T s) (16 - f v) v then f v else 0) := by
    unfold netS val
    have key : ∀ n, sumZ n (fun w => if f w = 0 then (0 : Int) else netD (woS s) (coS T s) (16 - f w) w) ≤ sumZ n (fun w => if (if 0 ≤ netD (woS s) (coS T s) (16 - f w) w then f w else 0) = 0 then (0 : Int) else netD (woS s) (coS T s) (16 - (if 0 ≤ netD (woS s) (coS T s) (16 - f w) w then f w else 0)) w) := by
      intro n
      induction n with
      | zero => exact Int.le_refl _
      | succ n ih =>
        show sumZ n _ + (if f n = 0 then (0 : Int) else netD (woS s) (coS T s) (16 - f n) n) ≤ sumZ n _ + (if (if 0 ≤ netD (woS s) (coS T s) (16 - f n) n then f n else 0) = 0 then (0 : Int) else netD (woS s) (coS T s) (16 - (if 0 ≤ netD (woS s) (coS T s) (16 - f n) n then f n else 0)) n)
        by_cases z : 0 ≤ netD (woS s) (coS T s) (16 - f n) n
        · simp only [if_pos z]; omega
        · simp only [if_neg z, if_true]
          by_cases q : f n = 0
          · rw [if_pos q]; omega
          · rw [if_neg q]; omega
    exact key 8
  rw [← e] at le
  refine Int.le_trans le ?_
  exact Int.ediv_le_ediv (by omega) m
