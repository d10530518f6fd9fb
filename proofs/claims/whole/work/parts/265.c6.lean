def cC9 : List Nat := [93, 98, 99, 100, 101, 102, 103, 104, 105, 106]
theorem cC8_9 : ∀ c, c ∈ cC8 → c ∈ cC9 := by decide
theorem L_on12_93 {w0 : Wd} {u W : Nat} {fi : Nat → Bool} {wt : Int} {T : Tm} (b : WkB (w0 4) (w0 7) (w0 13) (w0 93) (w0 94) (w0 95) (w0 96) (w0 97) (w0 99) u W fi wt T) (p : Nat) (w : Wd) (d : Nat) (Q : MV → Wd → Prop) (hF : Fr cC8 w0 w) (hr : RowC T wt (w 102) (w 103) (w 104) (w 105) (w 106) [p]) (hP : p < T.P) (hc : ∀ v, v < W → 0 ≤ w 100 v ∧ w 100 v ≤ 40000)
    (kk : ∀ w', Fr cC8 w0 w' → AccW u W (hitC (w0 99) (fun v => w0 13 (4 * v)) T) T wt (ext T fi (T.n - 1) [p]) (w 98) (w 100) (w 101) (w' 98) (w' 100) (w' 101) → Q none w') : Cw (d + 12) 64 [mR 93, mI 0] w Q := by
  have n6 := b.ct.n6
  have n2 := b.ct.n2
  have p8 := Nat.pow_le_pow_right (n := 8) (by omega) (show T.n - 1 ≤ 5 by omega)
  rw [show (8 : Nat) ^ 5 = 32768 from rfl] at p8
  have h := L_onward_93 b (T.n - 1) [p] w (d + 10 - 2 * (T.n - 1)) Q hF hr (by simp; omega) (by simp) (fun x hx => by rw [List.mem_singleton] at hx; omega) (fun v hv => by have := hc v hv; omega) (fun w' a1 _ a3 => kk w' a1 a3)
  rw [show d + 10 - 2 * (T.n - 1) + 2 * (T.n - 1) + 2 = d + 12 by omega] at h
  exact h
theorem S_walkUnit_93 {d : Nat} {Q : MV → Wd → Prop} {w : Wd} {s nms : Nat → Int} {T : Tm} (rv : RV (w 4) (w 5) (w 6) (w 7) (w 8) (w 9) (w 10) (w 11) (w 12) (w 13) (w 14) (w 15) s nms) (hs : WS s) (ct : CtT (w 4) (w 7) (w 94) (w 95) (w 96) (w 97) (w 93 2) T) (U W u : Nat) (h2 : s 2 = U) (h3 : s 3 = W) (hu : u < U)
    (k : ∀ w', Fr cC9 w w' → (∀ i, i ≠ 7 → i ≠ 8 → i ≠ 9 → i ≠ 10 → w' 93 i = w 93 i) → (∀ i, i < 24 * u ∨ 24 * u + 24 ≤ i → w' 98 i = w 98 i) → WalkU T (w 93 2) s u W (w' 98) (w' 100) (w' 101) → (∀ v, v < W → w' 99 v = roomS s u v) → Q none w') : Cw (d + 13) 59 [mR 93, mI u] w Q := by
  have hU : U ≤ 16 := by have := hs.un; omega
  have hW : W ≤ 8 := by have := hs.wa; omega
  have mk := hs.mak u (by omega)
  have pr := hs.par u (by omega)
  have pe := hs.pe
  obtain ⟨m, hm⟩ := Int.eq_ofNat_of_zero_le mk.1
  have hP : (T.P : Int) = s 0 := by rw [← ct.P, rv.people]
  have P8 := ct.P8
  have hmP : m < T.P := by omega
  have e111 : w 11 (5 * u + 1) = m := by rw [rv.mak u (by omega)]; exact hm
  have e112 : w 11 (5 * u + 2) = s (32 + 5 * u) := rv.par u (by omega)
  -- behind the firsts
  have main : ∀ (FB : Int) (n1 : Int), (∀ x, x < 8 → tb FB x = fiR s u x) → (∀ x, 8 ≤ x → tb FB x = false) → in32 FB → Cw (d + 10 + 2) 276 [mR 100, mI 0] (ub (ub w 93 7 u) 93 8 FB) (fun _ v2 => Wp (Cw (d + 10 + 2)) cd_Ways_walkUnit (0, 0, n1) Q 19 [mR 93, mI u, mI (w32 (w32 ((u : Int) * 8) * 3)), none] [] v2) := by
    intro FB n1 hF1 hF2 hF3
    refine S_fillI 100 8 0 rfl rfl (by omega) (by decide) ?_
    intro g0 hg0 _
    -- behind the keys
    have behind : ∀ (f : Nat → Int), (∀ v k, v < W → k < 3 → f ((8 * u + v) * 3 + k) = NOW) → (∀ i, i < 24 * u ∨ 24 * u + 24 ≤ i → f i = w 98 i) → Cw (d + 10 + 2) 62 [mR 93] (ubf (ubf (ub (ub w 93 7 u) 93 8 FB) 100 g0) 98 f) (fun _ v2 => (v2 93 10 < 0 → Q none v2) ∧ (¬ (v2 93 10 < 0) → ((iand (v2 93 8) (ixor (v2 94 6) ((-1))) = 0 → Wp (Cw (d + 10 + 2)) cd_Ways_walkUnit (0, 0, n1) Q 57 [mR 93, mI u, mI 1, none] [] v2) ∧ (¬ (iand (v2 93 8) (ixor (v2 94 6) ((-1))) = 0) → Q none v2)))) := by
      intro f hf hof
      refine S_measureRooms_93 (w := ubf (ubf (ub (ub w 93 7 u) 93 8 FB) 100 g0) 98 f) rv hs U W u h2 h3 hu rfl ?_
      intro o g ho hg hroom hwan
      have ho8 : o 8 = FB := by rw [ho 8 (by decide) (by decide)]; rfl
      have ho2 : o 2 = w 93 2 := by rw [ho 2 (by decide) (by decide)]; rfl
      have hfr : Fr cC9 w (ubf (ubf (ubf (ubf (ub (ub w 93 7 u) 93 8 FB) 100 g0) 98 f) 93 o) 99 g) := by
        refine Fr.ubf (Fr.ubf (Fr.ubf (Fr.ubf (Fr.ub (Fr.ub (Fr.rfl' _ _) ?_) ?_) ?_) ?_) ?_) ?_ <;> decide
      have h93 : ∀ i, i ≠ 7 → i ≠ 8 → i ≠ 9 → i ≠ 10 → o i = w 93 i := fun i i1 i2 i3 i4 => by
        rw [ho i i3 i4]
        show up1 (up1 (w 93) 7 u) 8 FB i = _
        rw [up1_ap, if_neg i2, up1_ap, if_neg i1]
      have f98 : (ubf (ubf (ubf (ubf (ub (ub w 93 7 u) 93 8 FB) 100 g0) 98 f) 93 o) 99 g) 98 = f := rfl
      have f100 : (ubf (ubf (ubf (ubf (ub (ub w 93 7 u) 93 8 FB) 100 g0) 98 f) 93 o) 99 g) 100 = g0 := rfl
      have f93 : (ubf (ubf (ubf (ubf (ub (ub w 93 7 u) 93 8 FB) 100 g0) 98 f) 93 o) 99 g) 93 = o := rfl
      have f99 : (ubf (ubf (ubf (ubf (ub (ub w 93 7 u) 93 8 FB) 100 g0) 98 f) 93 o) 99 g) 99 = g := rfl
      have f94 : (ubf (ubf (ubf (ubf (ub (ub w 93 7 u) 93 8 FB) 100 g0) 98 f) 93 o) 99 g) 94 = w 94 := rfl
      have f11 : (ubf (ubf (ubf (ubf (ub (ub w 93 7 u) 93 8 FB) 100 g0) 98 f) 93 o) 99 g) 11 = w 11 := rfl
      have f13 : (ubf (ubf (ubf (ubf (ub (ub w 93 7 u) 93 8 FB) 100 g0) 98 f) 93 o) 99 g) 13 = w 13 := rfl
      have f4 : (ubf (ubf (ubf (ubf (ub (ub w 93 7 u) 93 8 FB) 100 g0) 98 f) 93 o) 99 g) 4 = w 4 := rfl
      have f7 : (ubf (ubf (ubf (ubf (ub (ub w 93 7 u) 93 8 FB) 100 g0) 98 f) 93 o) 99 g) 7 = w 7 := rfl
      have f95 : (ubf (ubf (ubf (ubf (ub (ub w 93 7 u) 93 8 FB) 100 g0) 98 f) 93 o) 99 g) 95 = w 95 := rfl
      have f96 : (ubf (ubf (ubf (ubf (ub (ub w 93 7 u) 93 8 FB) 100 g0) 98 f) 93 o) 99 g) 96 = w 96 := rfl
      have f97 : (ubf (ubf (ubf (ubf (ub (ub w 93 7 u) 93 8 FB) 100 g0) 98 f) 93 o) 99 g) 97 = w 97 := rfl
      generalize (ubf (ubf (ubf (ubf (ub (ub w 93 7 u) 93 8 FB) 100 g0) 98 f) 93 o) 99 g) = w0 at *
      have hwho : ∀ v, v < W → w 13 (4 * v) = s (109 + 4 * v) := fun v hv => by rw [rv.want _ (by omega)]
      have hit : ∀ v r, v < W → hitC (w0 99) (fun v => w0 13 (4 * v)) T v r = hitS T s u v r := fun v r hv => by
        refine roomS_hit ?_ ?_
        · rw [f99]; exact hg v hv
        · show w0 13 (4 * v) = _
          rw [f13]; exact hwho v hv
      have hroom : ∀ v, v < W → g v ≤ o 10 := hroom
      have hwan : ∀ v, v < W → 0 ≤ g v → tb (o 9) (w 13 (4 * v)).toNat = true := hwan
      rw [f93, f94, ho8]
      refine ⟨fun z => ?_, fun z => ⟨fun z2 => ?_, fun z2 => ?_⟩⟩
      · -- no room at all
        have nohit : ∀ v r, v < W → hitS T s u v r = false := fun v r hv => by
          rw [← hit v r hv]
          unfold hitC
          have := hroom v hv
          rw [decide_eq_false (by rw [f99]; omega), Bool.and_false]
        refine k w0 hfr (by rw [f93]; exact h93) (by rw [f98]; exact hof) ?_ (by rw [f99]; exact hg)
        rw [f98, f100]
        refine ⟨fun v k' hv hk => ?_, fun v hv => ?_, fun v hv hne => ?_⟩
        · rw [hf v k' hv hk]
          refine ⟨fun r _ hh => ?_, Or.inl ⟨rfl, fun r _ => ?_⟩⟩
          · dsimp only at hh
            rw [nohit v r hv] at hh; cases hh
          · dsimp only
            rw [nohit v r hv]; rfl
        · rw [hg0 v (by omega), accC_no (fun x _ => nohit v x hv)]; rfl
        · exact absurd (hg0 v (by omega)) hne
      · -- the firsts may have it
        have hall : allF T s u = true := by
          have bits : ∀ x, x < 8 → fiR s u x = true → T.ha x = true := by
            intro x hx hf1
            have := congrArg (fun y => tb y x) z2
            simp only [tb_and, tb_zero] at this
            rw [tb_not _ (by omega), hF1 x hx, hf1, ct.hands x hx] at this
            cases q : T.ha x
            · rw [q] at this; simp at this
            · rfl
          unfold allF
          rw [hm, Int.toNat_natCast, Bool.and_eq_true]
          refine ⟨bits m (by omega) (by unfold fiR; rw [hm]; simp), ?_⟩
          rw [Bool.or_eq_true, decide_eq_true_eq]
          rcases pr with p1 | p1
          · left; omega
          · obtain ⟨p, hp⟩ := Int.eq_ofNat_of_zero_le p1.1
            right
            rw [hp, Int.toNat_natCast]
            exact bits p (by omega) (by unfold fiR; rw [hp]; simp)
        have B : WkB (w0 4) (w0 7) (w0 13) (w0 93) (w0 94) (w0 95) (w0 96) (w0 97) (w0 99) u W (fiR s u) (w 93 2) T := by
          rw [f4, f7, f13, f93, f94, f95, f96, f97, f99]
          refine (WkB.mk (ct) (by omega) (hW) (ho2) ?_ (by rw [rv.wants]; exact h3) (by rw [ho8]; exact hF1) (hroom) (fun v hv => ?_) (hwan))
          · rw [ho 7 (by decide) (by decide)]; rfl
          · rw [hwho v hv]
            have := hs.wwho v (by omega)
            omega
        -- one first, from its own row on
        have one : ∀ (p : Nat) (w1 : Wd) (Q' : MV → Wd → Prop), p < T.P → Fr cC8 w0 w1 → (∀ v, v < W → 0 ≤ w1 100 v ∧ w1 100 v ≤ 40000) → (∀ w', Fr cC8 w0 w' → AccW u W (hitS T s u) T (w 93 2) (ext T (fiR s u) (T.n - 1) [p]) (w1 98) (w1 100) (w1 101) (w' 98) (w' 100) (w' 101) → Q' none w') → Cw (d + 10 + 2) 64 [mR 93, mI 0] (ub (ub (ub (ub (ub w1 102 0 (p : Int)) 103 0 (ishl 1 (p : Int))) 104 0 0) 105 0 0) 106 0 0) Q' := by
          intro p w1 Q' hp hF4 hc4 kk
          have p7 : 2 ^ p ≤ 128 := Nat.pow_le_pow_right (n := 2) (by omega) (show p ≤ 7 by omega)
          refine L_on12_93 B p _ d Q' (Fr.tr hF4 (st5 w1 0 _ _ _ _ _) (fun _ x => x)) ?_ hp hc4 ?_
          · refine ⟨⟨rfl, by omega, ?_, ?_, rfl, rfl, rfl⟩, trivial⟩
            · show 0 ≤ ishl 1 (p : Int) ∧ ishl 1 (p : Int) < 256
              rw [ishl1 (by omega)]
              have := Nat.two_pow_pos p
              omega
            · intro x hx
              show tb (ishl 1 (p : Int)) x = [p].contains x
              rw [tb_bit (by omega) (by omega), Int.toNat_natCast]
              by_cases y : x = p
              · rw [y]; simp
              · simp [y]
          · intro w' a1 a2
            refine kk w' a1 ?_
            have : ∀ v r, v < W → hitC (w0 99) (fun v => w0 13 (4 * v)) T v r = hitS T s u v r := hit
            refine ⟨fun v k' hv hk => ?_, a2.2.1, fun v hv => ?_, fun v hv => ?_⟩
            · have e : (fun r => hitS T s u v r && (min (tmW T.n (w 93 2) r) 2 == k')) = (fun r => hitC (w0 99) (fun v => w0 13 (4 * v)) T v r && (min (tmW T.n (w 93 2) r) 2 == k')) := by funext r; rw [this v r hv]
              rw [e]; exact a2.1 v k' hv hk
            · have e : hitS T s u v = hitC (w0 99) (fun v => w0 13 (4 * v)) T v := by funext r; rw [this v r hv]
              rw [e]; exact a2.2.2.1 v hv
            · have e : hitS T s u v = hitC (w0 99) (fun v => w0 13 (4 * v)) T v := by funext r; rw [this v r hv]
              rw [e]; exact a2.2.2.2 v hv
        -- the end
        have fin : ∀ (w' : Wd) (Bs : List (List Nat)), Fr cC8 w0 w' → ((s (32 + 5 * u) = -1 ∧ Bs = []) ∨ ∃ p : Nat, s (32 + 5 * u) = p ∧ p < T.P ∧ p ≠ m ∧ Bs = ext T (fiR s u) (T.n - 1) [p]) → AccW u W (hitS T s u) T (w 93 2) (ext T (fiR s u) (T.n - 1) [m] ++ Bs) (w0 98) (w0 100) (w0 101) (w' 98) (w' 100) (w' 101) → Q none w' := by
          intro w' Bs a1 a2 a3
          have j := walk_join (wt := w 93 2) (W := W) P8 ct.n2 ct.n6 ct.hr9 ct.pn9 ct.ak9 m hm hmP Bs a2 hall (f98 := w0 98) (f100 := w0 100) (f101 := w0 101) (by rw [f98]; exact hf) (fun v hv => by rw [f100]; exact hg0 v (by omega)) a3
          refine k w' (Fr.tr hfr a1 cC8_9) ?_ (fun i hi => by rw [a3.2.1 i hi, f98]; exact hof i hi) j (fun v hv => by rw [a1 99 (by decide), f99]; exact hg v hv)
          rw [a1 93 (by decide), f93]; exact h93
        have lenb : ∀ p, (ext T (fiR s u) (T.n - 1) [p]).length ≤ 32768 := fun p => by
          have a := ext_len T P8 (fiR s u) (T.n - 1) [p]
          have p8 := Nat.pow_le_pow_right (n := 8) (by omega) (show T.n - 1 ≤ 5 by have := ct.n6; omega)
          rw [show (8 : Nat) ^ 5 = 32768 from rfl] at p8
          omega
        apply Ways_walkUnit_93_c57
        rw [ix5_1 (by omega), Int.toNat_natCast, f11, e111, w32_id (x := 1 + 1) (by unfold in32; omega), show ((1 : Int) + 1) = 2 from rfl]
        (repeat' (apply spl <;> intro))
        · exfalso; omega
        · (refine And.intro (by omega) ?_)
          (repeat' (apply spl <;> intro))
          · exfalso; omega
          · refine one m w0 _ hmP (Fr.rfl' _ _) (fun v hv => by rw [f100, hg0 v (by omega)]; omega) ?_
            intro w2 a1 a2
            have g11 : w2 11 = w 11 := by rw [a1 11 (by decide), f11]
            apply Ways_walkUnit_93_c57
            rw [ix5_2 (by omega), Int.toNat_natCast, g11, e112, w32_id (x := 2 + 1) (by unfold in32; omega), show ((2 : Int) + 1) = 3 from rfl]
            have last : ∀ w3, Q none w3 → Wp (Cw (d + 10 + 2)) cd_Ways_walkUnit (0, 0, n1) Q 57 [mR 93, mI u, mI 3, none] [] w3 := by
              intro w3 hq
              apply Ways_walkUnit_93_c57
              refine ⟨fun _ => hq, fun y => ?_⟩
              exfalso; omega
            (repeat' (apply spl <;> intro))
            · exfalso; omega
            · (refine And.intro (by omega) ?_)
              (repeat' (apply spl <;> intro))
              · rename_i y
                refine last _ (fin w2 [] a1 (Or.inl ⟨y, rfl⟩) ?_)
                rw [List.append_nil]; exact a2
              · rename_i y
                obtain ⟨p, hp⟩ := Int.eq_ofNat_of_zero_le (show 0 ≤ s (32 + 5 * u) by omega)
                rw [hp]
                refine one p w2 _ (by omega) a1 (fun v hv => ?_) ?_
                · have b1 := a2.2.2.1 v hv
                  rw [f100, hg0 v (by omega)] at b1
                  have b2 := accC_le (hitS T s u v) (ext T (fiR s u) (T.n - 1) [m])
                  have b3 := lenb m
                  omega
                · intro w3 c1 c2
                  refine last _ (fin w3 _ c1 (Or.inr ⟨p, hp, by omega, by omega, rfl⟩) (a2.app c2))
      · -- a first may not
        have hall : allF T s u = false := by
          cases q : allF T s u
          · rfl
          · exfalso
            apply z2
            refine tb_ext (iand_in _ _) (by unfold in32; omega) ?_
            intro x hx
            rw [tb_and, tb_zero, tb_not _ hx]
            by_cases x8 : x < 8
            · rw [hF1 x x8, ct.hands x x8]
              unfold allF at q
              rw [hm, Int.toNat_natCast, Bool.and_eq_true] at q
              cases q1 : fiR s u x
              · rfl
              · unfold fiR at q1
                rw [hm, Bool.or_eq_true, decide_eq_true_eq, decide_eq_true_eq] at q1
                rcases q1 with q1 | q1
                · have : m = x := by omega
                  rw [← this, q.1]; rfl
                · have q2 := q.2
                  rw [q1, Int.toNat_natCast, Bool.or_eq_true, decide_eq_true_eq] at q2
                  rcases q2 with q2 | q2
                  · omega
                  · rw [q2]; rfl
            · rw [hF2 x (by omega)]; rfl
        have hro : rowsO T s u = [] := by unfold rowsO; rw [hall]; rfl
        refine k w0 hfr (by rw [f93]; exact h93) (by rw [f98]; exact hof) ?_ (by rw [f99]; exact hg)
        rw [f98, f100, WalkU, hro]
        refine ⟨fun v k' hv hk => ?_, fun v hv => ?_, fun v hv hne => ?_⟩
        · rw [hf v k' hv hk]; exact leastK_nil _ _
        · rw [hg0 v (by omega)]; rfl
        · exact absurd (hg0 v (by omega)) hne
    -- the keys
    have l19 : ∀ (m i : Nat) (f : Nat → Int), i + m = 24 * u + 24 → 24 * u ≤ i → (∀ x, 24 * u ≤ x → x < i → f x = NOW) → (∀ x, x < 24 * u ∨ 24 * u + 24 ≤ x → f x = w 98 x) → Wp (Cw (d + 10 + 2)) cd_Ways_walkUnit (0, 0, n1) Q 19 [mR 93, mI u, mI i, none] [] (ubf (ubf (ub (ub w 93 7 u) 93 8 FB) 100 g0) 98 f) := by
      intro m
      induction m with
      | zero =>
        intro i f hi h24 hf ho
        have : i = 24 * u + 24 := by omega
        subst this
        apply Ways_walkUnit_93_c19
        rw [ixs (k := u) (by omega), w32_id (x := ((u + 1 : Nat) : Int) * 8) (by unfold in32; omega), w32_id (x := ((u + 1 : Nat) : Int) * 8 * 3) (by unfold in32; omega)]
        refine ⟨fun _ => behind f (fun v k' hv hk => hf _ (by omega) (by omega)) ho, fun z => ?_⟩
        exfalso; omega
      | succ m ih =>
        intro i f hi h24 hf ho
        apply Ways_walkUnit_93_c19
        rw [ixs (k := u) (by omega), w32_id (x := ((u + 1 : Nat) : Int) * 8) (by unfold in32; omega), w32_id (x := ((u + 1 : Nat) : Int) * 8 * 3) (by unfold in32; omega), ixs (k := i) (by omega), Int.toNat_natCast, ub_on]
        refine ⟨fun z => by exfalso; omega, fun _ => ⟨fun z => by exfalso; omega, fun _ => ⟨by omega, ?_⟩⟩⟩
        refine ih (i + 1) _ (by omega) (by omega) (fun x x1 x2 => ?_) (fun x hx => ?_)
        · rw [up1_ap]
          by_cases y : x = i
          · rw [if_pos y]; rfl
          · rw [if_neg y]; exact hf x x1 (by omega)
        · rw [up1_ap, if_neg (by omega)]; exact ho x hx
    rw [w32_id (x := (u : Int) * 8) (by unfold in32; omega), w32_id (x := (u : Int) * 8 * 3) (by unfold in32; omega), show (u : Int) * 8 * 3 = ((24 * u : Nat) : Int) by omega]
    have e := l19 24 (24 * u) (w 98) (by omega) (Nat.le_refl _) (fun x x1 x2 => by omega) (fun _ _ => rfl)
    have ew : ubf (ubf (ub (ub w 93 7 u) 93 8 FB) 100 g0) 98 (w 98) = ubf (ub (ub w 93 7 u) 93 8 FB) 100 g0 := ubf_sf0 (ubf (ub (ub w 93 7 u) 93 8 FB) 100 g0) 98
    rw [ew] at e
    exact e
  apply Ways_walkUnit_93_en (d := d + 10)
  intro n1
  rw [ix5_1 (by omega), ix5_2 (by omega), Int.toNat_natCast, Int.toNat_natCast, e111, e112]
  have p7 : 2 ^ m ≤ 128 := Nat.pow_le_pow_right (n := 2) (by omega) (show m ≤ 7 by omega)
  have p0 := Nat.two_pow_pos m
  (refine And.intro (by omega) ?_); (refine And.intro (by omega) ?_)
  (repeat' (apply spl <;> intro))
  · rename_i z
    obtain ⟨p, hp⟩ := Int.eq_ofNat_of_zero_le (show 0 ≤ s (32 + 5 * u) by omega)
    have p72 : 2 ^ p ≤ 128 := Nat.pow_le_pow_right (n := 2) (by omega) (show p ≤ 7 by omega)
    have o8 : 2 ^ m ||| 2 ^ p < 256 := Nat.or_lt_two_pow (n := 8) (by omega) (by omega)
    have eb : ior (ishl 1 (m : Int)) (ishl 1 (s (32 + 5 * u))) = ((2 ^ m ||| 2 ^ p : Nat) : Int) := by
      rw [hp, ishl1 (by omega), ishl1 (by omega), ior_nat (by omega) (by omega)]
    refine main _ n1 (fun x hx => ?_) (fun x hx => ?_) (by rw [eb]; unfold in32; omega)
    · rw [eb, tb_nat _ _ (by omega), tbit_or_pow, Nat.testBit_two_pow]
      unfold fiR
      rw [hm, hp]
      congr 1
      · by_cases y : m = x
        · subst y; simp
        · rw [decide_eq_false y, decide_eq_false (by omega)]
      · by_cases y : p = x
        · subst y; simp
        · rw [decide_eq_false y, decide_eq_false (by omega)]
    · rw [eb, tb_nat _ _ (by omega)]
      exact Nat.testBit_lt_two_pow (Nat.lt_of_lt_of_le o8 (by have := Nat.pow_le_pow_right (n := 2) (by omega) hx; omega))
  · rename_i z
    have eb : ior (ishl 1 (m : Int)) 0 = ((2 ^ m : Nat) : Int) := by
      rw [ishl1 (by omega), show (0 : Int) = ((0 : Nat) : Int) from rfl, ior_nat (by omega) (by omega), Nat.or_zero]
    refine main _ n1 (fun x hx => ?_) (fun x hx => ?_) (by rw [eb]; unfold in32; omega)
    · rw [eb, tb_nat _ _ (by omega), Nat.testBit_two_pow]
      unfold fiR
      rw [hm]
      by_cases y : m = x
      · subst y; simp
      · rw [decide_eq_false y, decide_eq_false (by omega), decide_eq_false (by omega)]; rfl
    · rw [eb, tb_nat _ _ (by omega)]
      exact Nat.testBit_lt_two_pow (Nat.lt_of_lt_of_le (show 2 ^ m < 256 by omega) (by have := Nat.pow_le_pow_right (n := 2) (by omega) hx; omega))
