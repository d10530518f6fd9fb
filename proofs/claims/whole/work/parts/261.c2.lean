def hitC (rooms who : Nat → Int) (T : Tm) (v : Nat) (r : List Nat) : Bool := (match r with | [] => false | q :: _ => decide (who v = q)) && decide ((hoL T r : Int) ≤ rooms v)
def AccW (u W : Nat) (hit : Nat → List Nat → Bool) (T : Tm) (wt : Int) (L : List (List Nat)) (f98 f100 f101 g98 g100 g101 : Nat → Int) : Prop :=
  (∀ v k, v < W → k < 3 → g98 ((8 * u + v) * 3 + k) = accK (fun r => hit v r && (min (tmW T.n wt r) 2 == k)) (keyL T) L (f98 ((8 * u + v) * 3 + k))) ∧ (∀ i, i < 24 * u ∨ 24 * u + 24 ≤ i → g98 i = f98 i) ∧ (∀ v, v < W → g100 v = f100 v + accC (hit v) L) ∧ (∀ v, v < W → g101 v = accL (hit v) (fun r => (hoL T r : Int)) L (f100 v) (f101 v))
theorem AccW.nil {u W : Nat} {hit : Nat → List Nat → Bool} {T : Tm} {wt : Int} {f98 f100 f101 : Nat → Int} : AccW u W hit T wt [] f98 f100 f101 f98 f100 f101 := ⟨fun _ _ _ _ => rfl, fun _ _ => rfl, fun _ _ => by show _ = _ + ((0 : Nat) : Int); omega, fun _ _ => rfl⟩
theorem AccW.app {u W : Nat} {hit : Nat → List Nat → Bool} {T : Tm} {wt : Int} {A B : List (List Nat)} {f98 f100 f101 g98 g100 g101 h98 h100 h101 : Nat → Int} (h1 : AccW u W hit T wt A f98 f100 f101 g98 g100 g101) (h2 : AccW u W hit T wt B g98 g100 g101 h98 h100 h101) : AccW u W hit T wt (A ++ B) f98 f100 f101 h98 h100 h101 := by
  refine ⟨fun v k hv hk => ?_, fun i hi => by rw [h2.2.1 i hi, h1.2.1 i hi], fun v hv => ?_, fun v hv => ?_⟩
  · rw [accK_app, h2.1 v k hv hk, h1.1 v k hv hk]
  · rw [accC_app, h2.2.2.1 v hv, h1.2.2.1 v hv]; omega
  · rw [accL_app, h2.2.2.2 v hv, h1.2.2.1 v hv, h1.2.2.2 v hv]
theorem AccW.no {u W : Nat} {hit : Nat → List Nat → Bool} {T : Tm} {wt : Int} {A : List (List Nat)} {f98 f100 f101 : Nat → Int} (h : ∀ v x, v < W → x ∈ A → hit v x = false) : AccW u W hit T wt A f98 f100 f101 f98 f100 f101 := by
  refine ⟨fun v k hv _ => ?_, fun _ _ => rfl, fun v hv => ?_, fun v hv => ?_⟩
  · rw [accK_no (fun x hx => by rw [h v x hv hx]; rfl)]
  · rw [accC_no (fun x hx => h v x hv hx)]; omega
  · rw [accL_no (fun x hx => h v x hv hx)]
theorem arr3 (w : Wd) (a b c : Nat → Int) (i j k : Nat) (x y z : Int) : ub (ub (ub (ubf (ubf (ubf w 98 a) 100 b) 101 c) 101 i x) 100 j y) 98 k z = ubf (ubf (ubf w 98 (up1 a k z)) 100 (up1 b j y)) 101 (up1 c i x) := by
  funext c' t
  simp only [ub_ap, ubf_ap, up1_ap]
  by_cases z1 : c' = 98
  · simp [z1]
  · by_cases z2 : c' = 100
    · simp [z2]
    · by_cases z3 : c' = 101 <;> simp [z1, z2, z3]
theorem S_arrive_93 {d : Nat} {Q : MV → Wd → Prop} {w : Wd} {T : Tm} {wt : Int} (u W k : Nat) (hu : u < 16) (hW : W ≤ 8) (e93 : w 93 7 = u) (e4 : w 4 11 = W) (hk : k ≤ 5) (r : List Nat) (hr : RowC T wt (w 102) (w 103) (w 104) (w 105) (w 106) r) (hl : r.length = k + 1) (r8 : ∀ x, x ∈ r → x < 8) (b1 : hoL T r < 64) (b2 : coL T r ≤ 5000) (hc : ∀ v, v < W → 0 ≤ w 100 v ∧ w 100 v ≤ 1000000)
    (kk : ∀ g98 g100 g101 : Nat → Int, AccW u W (hitC (w 99) (fun v => w 13 (4 * v)) T) T wt [r] (w 98) (w 100) (w 101) g98 g100 g101 → Q none (ubf (ubf (ubf w 98 g98) 100 g100) 101 g101)) : Cw (d + 1) 65 [mR 93, mI k] w Q := by
  apply Ways_arrive_93_en
  intro n1
  obtain ⟨q, t, er⟩ : ∃ q t, r = q :: t := by
    cases r with
    | nil => simp at hl
    | cons q t => exact ⟨q, t, rfl⟩
  have lt : t.length = k := by rw [er] at hl; simp at hl; omega
  have hr2 := hr
  rw [er] at hr2
  obtain ⟨⟨c1, c2, _, _, c5, c6, c7⟩, _⟩ := hr2
  rw [← er] at c5 c6 c7
  rw [lt] at c1 c5 c6 c7
  have pl := pthL_bd r r8
  have p8 := Nat.pow_le_pow_right (n := 8) (by omega) (show r.length ≤ 6 by omega)
  rw [show (8 : Nat) ^ 6 = 262144 from rfl] at p8
  have ekey : keyL T r = (coL T r : Int) * 16777216 + (hoL T r : Int) * 262144 + (pthL r : Int) := rfl
  -- want by want
  have l46 : ∀ (m v : Nat) (g98 g100 g101 : Nat → Int), v + m = W → (∀ x k, x < v → k < 3 → g98 ((8 * u + x) * 3 + k) = accK (fun r => hitC (w 99) (fun v => w 13 (4 * v)) T x r && (min (tmW T.n wt r) 2 == k)) (keyL T) [r] (w 98 ((8 * u + x) * 3 + k))) → (∀ i, ¬ (∃ x k, x < v ∧ k < 3 ∧ i = (8 * u + x) * 3 + k) → g98 i = w 98 i) → (∀ x, x < v → g100 x = w 100 x + accC (hitC (w 99) (fun v => w 13 (4 * v)) T x) [r]) → (∀ x, v ≤ x → g100 x = w 100 x) → (∀ x, x < v → g101 x = accL (hitC (w 99) (fun v => w 13 (4 * v)) T x) (fun r => (hoL T r : Int)) [r] (w 100 x) (w 101 x)) → (∀ x, v ≤ x → g101 x = w 101 x) → Wp (Cw (d + 0)) cd_Ways_arrive (0, 0, n1) Q 46 [mR 93, mI k, none, mL (keyL T r), none, mI (min (tmW T.n wt r) 2 : Nat), mI v, none, none] [] (ubf (ubf (ubf w 98 g98) 100 g100) 101 g101) := by
    intro m
    induction m with
    | zero =>
      intro v g98 g100 g101 hv h1 h2 h3 h4 h5 h6
      have : v = W := by omega
      subst this
      have e4' : (ubf (ubf (ubf w 98 g98) 100 g100) 101 g101) 4 11 = v := e4
      apply Ways_arrive_93_c46
      (repeat' (apply spl <;> intro))
      · refine kk g98 g100 g101 ⟨h1, fun i hi => h2 i ?_, h3, h5⟩
        rintro ⟨x, k', a, b, c⟩
        omega
      all_goals (exfalso; omega)
    | succ m ih =>
      intro v g98 g100 g101 hv h1 h2 h3 h4 h5 h6
      have e4' : (ubf (ubf (ubf w 98 g98) 100 g100) 101 g101) 4 11 = W := e4
      have e13 : (ubf (ubf (ubf w 98 g98) 100 g100) 101 g101) 13 (4 * v) = w 13 (4 * v) := rfl
      have e99 : (ubf (ubf (ubf w 98 g98) 100 g100) 101 g101) 99 v = w 99 v := rfl
      have e104 : (ubf (ubf (ubf w 98 g98) 100 g100) 101 g101) 104 k = hoL T r := c5
      have e102 : (ubf (ubf (ubf w 98 g98) 100 g100) 101 g101) 102 k = q := c1
      have e100 : (ubf (ubf (ubf w 98 g98) 100 g100) 101 g101) 100 v = w 100 v := h4 v (Nat.le_refl _)
      have e101 : (ubf (ubf (ubf w 98 g98) 100 g100) 101 g101) 101 v = w 101 v := h6 v (Nat.le_refl _)
      have e93' : (ubf (ubf (ubf w 98 g98) 100 g100) 101 g101) 93 7 = u := e93
      have hcv := hc v (by omega)
      have ehit : hitC (w 99) (fun v => w 13 (4 * v)) T v r = (decide (w 13 (4 * v) = q) && decide ((hoL T r : Int) ≤ w 99 v)) := by
        unfold hitC
        rw [er]
      have s3 : min (tmW T.n wt r) 2 < 3 := by omega
      have e98 : (ubf (ubf (ubf w 98 g98) 100 g100) 101 g101) 98 ((8 * u + v) * 3 + min (tmW T.n wt r) 2) = w 98 ((8 * u + v) * 3 + min (tmW T.n wt r) 2) := h2 _ (by rintro ⟨x, k', a, b, c⟩; omega)
      have miss : hitC (w 99) (fun v => w 13 (4 * v)) T v r = false → Wp (Cw (d + 0)) cd_Ways_arrive (0, 0, n1) Q 46 [mR 93, mI k, none, mL (keyL T r), none, mI (min (tmW T.n wt r) 2 : Nat), mI (v + 1 : Nat), none, none] [] (ubf (ubf (ubf w 98 g98) 100 g100) 101 g101) := by
        intro z
        refine ih (v + 1) g98 g100 g101 (by omega) (fun x k' hx hk' => ?_) (fun i hi => ?_) (fun x hx => ?_) (fun x hx => h4 x (by omega)) (fun x hx => ?_) (fun x hx => h6 x (by omega))
        · by_cases y : x = v
          · rw [y, accK_no (fun a ha => by rw [List.mem_singleton] at ha; rw [ha, z]; rfl)]
            exact h2 _ (by rintro ⟨x2, k2, a, b, c⟩; omega)
          · exact h1 x k' (by omega) hk'
        · refine h2 i ?_
          rintro ⟨x, k', a, b, c⟩
          exact hi ⟨x, k', by omega, b, c⟩
        · by_cases y : x = v
          · rw [y, accC_no (fun a ha => by rw [List.mem_singleton] at ha; rw [ha, z]), h4 v (Nat.le_refl _)]; omega
          · exact h3 x (by omega)
        · by_cases y : x = v
          · rw [y, accL_no (fun a ha => by rw [List.mem_singleton] at ha; rw [ha, z])]
            exact h6 v (Nat.le_refl _)
          · exact h5 x (by omega)
      have take : ∀ y, hitC (w 99) (fun v => w 13 (4 * v)) T v r = true → y = (if w 100 v = 0 then (hoL T r : Int) else min (w 101 v) (hoL T r)) → Wp (Cw (d + 0)) cd_Ways_arrive (0, 0, n1) Q 46 [mR 93, mI k, none, mL (keyL T r), none, mI (min (tmW T.n wt r) 2 : Nat), mI (v + 1 : Nat), none, none] [] (ub (ub (ub (ubf (ubf (ubf w 98 g98) 100 g100) 101 g101) 101 v y) 100 v (w 100 v + 1)) 98 ((8 * u + v) * 3 + min (tmW T.n wt r) 2) (min (w 98 ((8 * u + v) * 3 + min (tmW T.n wt r) 2)) (keyL T r))) := by
        intro y z hy
        rw [arr3]
        refine ih (v + 1) _ _ _ (by omega) (fun x k' hx hk' => ?_) (fun i hi => ?_) (fun x hx => ?_) (fun x hx => ?_) (fun x hx => ?_) (fun x hx => ?_)
        · rw [up1_ap]
          by_cases y1 : x = v
          · rw [y1]
            show _ = (if (hitC (w 99) (fun v => w 13 (4 * v)) T v r && (min (tmW T.n wt r) 2 == k')) = true then min (w 98 ((8 * u + v) * 3 + k')) (keyL T r) else w 98 ((8 * u + v) * 3 + k'))
            rw [z, Bool.true_and]
            by_cases y2 : min (tmW T.n wt r) 2 = k'
            · rw [y2, if_pos rfl, if_pos (by simp)]
            · rw [if_neg (by omega), if_neg (by simp; exact y2)]
              exact h2 _ (by rintro ⟨x2, k2, a, b, c⟩; omega)
          · rw [if_neg (by omega)]; exact h1 x k' (by omega) hk'
        · rw [up1_ap, if_neg (fun y1 => hi ⟨v, _, by omega, s3, y1⟩)]
          refine h2 i ?_
          rintro ⟨x, k', a, b, c⟩
          exact hi ⟨x, k', by omega, b, c⟩
        · rw [up1_ap]
          by_cases y1 : x = v
          · rw [if_pos y1, y1]
            show _ = _ + (((if hitC (w 99) (fun v => w 13 (4 * v)) T v r = true then 1 else 0) + 0 : Nat) : Int)
            rw [if_pos z]; rfl
          · rw [if_neg y1]; exact h3 x (by omega)
        · rw [up1_ap, if_neg (by omega)]; exact h4 x (by omega)
        · rw [up1_ap]
          by_cases y1 : x = v
          · rw [if_pos y1, y1]
            show _ = (if hitC (w 99) (fun v => w 13 (4 * v)) T v r = true then (if w 100 v = 0 then (hoL T r : Int) else min (w 101 v) (hoL T r)) else w 101 v)
            rw [if_pos z, hy]
          · rw [if_neg y1]; exact h5 x (by omega)
        · rw [up1_ap, if_neg (by omega)]; exact h6 x (by omega)
      apply Ways_arrive_93_c46
      rw [e4', e93', ix24 hu (by omega) s3, ix4_0 (by omega), Int.toNat_natCast, Int.toNat_natCast, Int.toNat_natCast, Int.toNat_natCast, e13, e99, e104, e102, e100, e101, e98, ixs (k := v) (by omega), w32_id (x := w 100 v + 1) (by unfold in32; omega)]
      (repeat' (apply spl <;> intro))
      · exfalso; omega
      · (refine And.intro (by omega) ?_); (refine And.intro (by omega) ?_); (refine And.intro (by omega) ?_)
        (repeat' (apply spl <;> intro))
        · rename_i z
          exact miss (by rw [ehit, decide_eq_false (show ¬ (hoL T r : Int) ≤ w 99 v by omega), Bool.and_false])
        · rename_i z
          (refine And.intro (by omega) ?_)
          (repeat' (apply spl <;> intro))
          · rename_i z2
            exact miss (by rw [ehit, decide_eq_false z2]; rfl)
          · rename_i z2
            have hy : hitC (w 99) (fun v => w 13 (4 * v)) T v r = true := by
              rw [ehit, decide_eq_true (Decidable.not_not.mp z2), decide_eq_true (show (hoL T r : Int) ≤ w 99 v by omega)]; rfl
            (refine And.intro (by omega) ?_)
            (repeat' (apply spl <;> intro))
            · rename_i z3
              (refine And.intro (by omega) ?_); (refine And.intro (by omega) ?_); (refine And.intro (by omega) ?_); (refine And.intro (by omega) ?_); (refine And.intro (by omega) ?_); (refine And.intro (by omega) ?_); (refine And.intro (by omega) ?_)
              exact take _ hy (by rw [if_neg z3])
            · rename_i z3
              (refine And.intro (by omega) ?_); (refine And.intro (by omega) ?_); (refine And.intro (by omega) ?_); (refine And.intro (by omega) ?_); (refine And.intro (by omega) ?_); (refine And.intro (by omega) ?_)
              exact take _ hy (by rw [if_pos (by omega)])
  -- the path
  have l4 : ∀ (m i : Nat), i + m = k + 1 → Wp (Cw (d + 0)) cd_Ways_arrive (0, 0, n1) Q 4 [mR 93, mI k, mI (pthL (r.drop (k + 1 - i)) : Nat), mI i, none, none, none, none, none] [] w := by
    intro m
    induction m with
    | zero =>
      intro i hi
      have : i = k + 1 := by omega
      subst this
      rw [Nat.sub_self, List.drop_zero]
      apply Ways_arrive_93_c4
      rw [Int.toNat_natCast, c5, c6, c7]
      have g1 : lshl ((coL T r : Nat) : Int) 24 = (coL T r * 16777216 : Nat) := by
        have := lshl_nat (a := coL T r) (n := 24) (by omega) (by rw [show 2 ^ 24 = 16777216 from rfl]; omega)
        rw [show 2 ^ 24 = 16777216 from rfl] at this
        exact this
      have g2 : lshl ((hoL T r : Nat) : Int) 18 = (hoL T r * 262144 : Nat) := by
        have := lshl_nat (a := hoL T r) (n := 18) (by omega) (by rw [show 2 ^ 18 = 262144 from rfl]; omega)
        rw [show 2 ^ 18 = 262144 from rfl] at this
        exact this
      have ek : w64 (w64 (lshl ((coL T r : Nat) : Int) 24 + lshl ((hoL T r : Nat) : Int) 18) + ((pthL r : Nat) : Int)) = keyL T r := by
        rw [g1, g2, w64_id (x := ((coL T r * 16777216 : Nat) : Int) + ((hoL T r * 262144 : Nat) : Int)) (by unfold in64; omega), w64_id (by unfold in64; omega), ekey]
        omega
      rw [ek]
      (repeat' (apply spl <;> intro))
      · (refine And.intro (by omega) ?_); (refine And.intro (by omega) ?_); (refine And.intro (by omega) ?_)
        have em : min ((tmW T.n wt r : Nat) : Int) 2 = ((min (tmW T.n wt r) 2 : Nat) : Int) := by omega
        rw [em]
        have ew : w = ubf (ubf (ubf w 98 (w 98)) 100 (w 100)) 101 (w 101) := by
          funext c' t
          simp only [ubf_ap]
          by_cases z1 : c' = 98
          · simp [z1]
          · by_cases z2 : c' = 100
            · simp [z2]
            · by_cases z3 : c' = 101 <;> simp [z1, z2, z3]
        have e := l46 W 0 (w 98) (w 100) (w 101) (by omega) (fun x _ hx => by omega) (fun _ _ => rfl) (fun x hx => by omega) (fun _ _ => rfl) (fun x hx => by omega) (fun _ _ => rfl)
        rw [← ew] at e
        exact e
      · exfalso; omega
    | succ m ih =>
      intro i hi
      have hlt : k + 1 - i - 1 < r.length := by omega
      have ed : r.drop (k + 1 - (i + 1)) = r[k + 1 - i - 1] :: r.drop (k + 1 - i) := by
        have := List.drop_eq_getElem_cons hlt
        rw [show k + 1 - (i + 1) = k + 1 - i - 1 by omega, this, show k + 1 - i - 1 + 1 = k + 1 - i by omega]
      have ld : (r.drop (k + 1 - i)).length = i := by rw [List.length_drop]; omega
      have hro : RowC T wt (w 102) (w 103) (w 104) (w 105) (w 106) (r[k + 1 - i - 1] :: r.drop (k + 1 - i)) := by
        have hro0 := hr
        have e := List.take_append_drop (k + 1 - (i + 1)) r
        rw [← e] at hro0
        have := RowC_suf hro0
        rwa [ed] at this
      obtain ⟨⟨ro1, ro2, _⟩, _⟩ := hro
      rw [ld] at ro1
      have hx8 : ∀ x, x ∈ r.drop (k + 1 - i) → x < 8 := fun x hx => r8 x (List.mem_of_mem_drop hx)
      have hb := pthL_bd _ hx8
      rw [ld] at hb
      have p8' := Nat.pow_le_pow_right (n := 8) (by omega) (show i ≤ 5 by omega)
      rw [show (8 : Nat) ^ 5 = 32768 from rfl] at p8'
      have ih := ih (i + 1) (by omega)
      rw [ed, show pthL (r[k + 1 - i - 1] :: r.drop (k + 1 - i)) = pthL (r.drop (k + 1 - i)) * 8 + r[k + 1 - i - 1] from rfl] at ih
      generalize r[k + 1 - i - 1] = rq at *
      generalize pthL (r.drop (k + 1 - i)) = px at *
      have es : px <<< 3 = px * 8 := by rw [Nat.shiftLeft_eq]
      have h2 := Nat.shiftLeft_add_eq_or_of_lt (b := rq) (i := 3) (by omega) px
      have g3 : ior (ishl (px : Int) 3) (rq : Int) = ((px * 8 + rq : Nat) : Int) := by
        have := ishl_nat (a := px) (n := 3) (by omega) (by omega) (by rw [es]; omega)
        rw [show ishl (px : Int) 3 = ((px <<< 3 : Nat) : Int) from this, ior_nat (by omega) (by omega), ← h2, es]
      apply Ways_arrive_93_c4
      rw [Int.toNat_natCast i, ro1, g3, ixs (k := i) (by omega)]
      (repeat' (apply spl <;> intro))
      · exfalso; omega
      · (refine And.intro (by omega) ?_)
        exact ih
  have := l4 (k + 1) 0 (by omega)
  rw [Nat.sub_zero, show r.drop (k + 1) = [] from List.drop_eq_nil_of_le (by omega)] at this
  exact this
