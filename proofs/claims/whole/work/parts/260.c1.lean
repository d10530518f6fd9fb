/-! ways, class side: what a visit of rows does to the cells -/
theorem ix24 {u v k : Nat} (hu : u < 16) (hv : v < 8) (hk : k < 3) : w32 (w32 (w32 (w32 ((u : Int) * 8) + (v : Int)) * 3) + (k : Int)) = (((8 * u + v) * 3 + k : Nat) : Int) := by
  rw [ix8a hu hv, w32_id (x := ((8 * u + v : Nat) : Int) * 3) (by unfold in32; omega), w32_id (by unfold in32; omega)]; omega
def tmW (n : Nat) (wt : Int) : List Nat → Nat
  | [] => 0
  | q :: pre => match pre with
    | [] => 0
    | _ :: _ => tmW n wt pre + (if pre.length < n - 1 ∧ (q : Int) = wt then 1 else 0)
def RowC (T : Tm) (wt : Int) (ha hd sp co ti : Nat → Int) : List Nat → Prop
  | [] => True
  | q :: t => (ha t.length = q ∧ q < 8 ∧ (0 ≤ hd t.length ∧ hd t.length < 256) ∧ (∀ x, x < 8 → tb (hd t.length) x = (q :: t).contains x) ∧ sp t.length = hoL T (q :: t) ∧ co t.length = coL T (q :: t) ∧ ti t.length = tmW T.n wt (q :: t)) ∧ RowC T wt ha hd sp co ti t
theorem RowC_ext {T : Tm} {wt : Int} {ha hd sp co ti ha' hd' sp' co' ti' : Nat → Int} : ∀ {pre : List Nat}, (∀ i, i < pre.length → ha' i = ha i ∧ hd' i = hd i ∧ sp' i = sp i ∧ co' i = co i ∧ ti' i = ti i) → RowC T wt ha hd sp co ti pre → RowC T wt ha' hd' sp' co' ti' pre
  | [], _, _ => trivial
  | q :: t, e, h => by
    obtain ⟨⟨h1, h2, h3, h4, h5, h6, h7⟩, h8⟩ := h
    obtain ⟨e1, e2, e3, e4, e5⟩ := e t.length (by simp)
    refine ⟨⟨by rw [e1, h1], h2, by rw [e2]; exact h3, by rw [e2]; exact h4, by rw [e3, h5], by rw [e4, h6], by rw [e5, h7]⟩, RowC_ext (fun i hi => e i (by simp; omega)) h8⟩
theorem RowC_suf {T : Tm} {wt : Int} {ha hd sp co ti : Nat → Int} : ∀ {t r : List Nat}, RowC T wt ha hd sp co ti (t ++ r) → RowC T wt ha hd sp co ti r
  | [], _, h => h
  | _ :: t, _, h => RowC_suf (t := t) h.2
def accK (hit : List Nat → Bool) (key : List Nat → Int) : List (List Nat) → Int → Int
  | [], m => m
  | r :: L, m => accK hit key L (if hit r then min m (key r) else m)
def accC (hit : List Nat → Bool) : List (List Nat) → Nat
  | [] => 0
  | r :: L => (if hit r then 1 else 0) + accC hit L
def accL (hit : List Nat → Bool) (ho : List Nat → Int) : List (List Nat) → Int → Int → Int
  | [], _, l => l
  | r :: L, c, l => if hit r then accL hit ho L (c + 1) (if c = 0 then ho r else min l (ho r)) else accL hit ho L c l
theorem accK_app (hit : List Nat → Bool) (key : List Nat → Int) : ∀ (A B : List (List Nat)) (m : Int), accK hit key (A ++ B) m = accK hit key B (accK hit key A m)
  | [], _, _ => rfl
  | _ :: A, B, _ => accK_app hit key A B _
theorem accC_app (hit : List Nat → Bool) : ∀ (A B : List (List Nat)), accC hit (A ++ B) = accC hit A + accC hit B
  | [], _ => by simp [accC]
  | r :: A, B => by
    show (if hit r then 1 else 0) + accC hit (A ++ B) = (if hit r then 1 else 0) + accC hit A + accC hit B
    rw [accC_app hit A B]; omega
theorem accL_app (hit : List Nat → Bool) (ho : List Nat → Int) : ∀ (A B : List (List Nat)) (c l : Int), accL hit ho (A ++ B) c l = accL hit ho B (c + accC hit A) (accL hit ho A c l)
  | [], B, c, l => by show accL hit ho B c l = accL hit ho B (c + ((0 : Nat) : Int)) l; simp
  | r :: A, B, c, l => by
    show (if hit r then accL hit ho (A ++ B) (c + 1) _ else accL hit ho (A ++ B) c l) = accL hit ho B (c + (((if hit r then 1 else 0) + accC hit A : Nat) : Int)) (if hit r then accL hit ho A (c + 1) _ else accL hit ho A c l)
    by_cases z : hit r = true
    · rw [if_pos z, if_pos z, if_pos z, accL_app hit ho A B]
      congr 1; omega
    · rw [if_neg z, if_neg z, if_neg z, accL_app hit ho A B]
      congr 1; omega
theorem accK_no {hit : List Nat → Bool} {key : List Nat → Int} : ∀ {A : List (List Nat)} {m : Int}, (∀ x, x ∈ A → hit x = false) → accK hit key A m = m
  | [], _, _ => rfl
  | r :: A, m, h => by
    show accK hit key A (if hit r then _ else m) = m
    rw [h r (List.mem_cons_self ..)]
    exact accK_no (fun x hx => h x (List.mem_cons_of_mem _ hx))
theorem accC_no {hit : List Nat → Bool} : ∀ {A : List (List Nat)}, (∀ x, x ∈ A → hit x = false) → accC hit A = 0
  | [], _ => rfl
  | r :: A, h => by
    show (if hit r then 1 else 0) + accC hit A = 0
    rw [h r (List.mem_cons_self ..), accC_no (fun x hx => h x (List.mem_cons_of_mem _ hx))]; rfl
theorem accL_no {hit : List Nat → Bool} {ho : List Nat → Int} : ∀ {A : List (List Nat)} {c l : Int}, (∀ x, x ∈ A → hit x = false) → accL hit ho A c l = l
  | [], _, _, _ => rfl
  | r :: A, c, l, h => by
    show (if hit r then _ else accL hit ho A c l) = l
    rw [h r (List.mem_cons_self ..)]
    exact accL_no (fun x hx => h x (List.mem_cons_of_mem _ hx))
theorem accC_le (hit : List Nat → Bool) : ∀ A : List (List Nat), accC hit A ≤ A.length
  | [] => Nat.le_refl _
  | r :: A => by
    have := accC_le hit A
    show (if hit r then 1 else 0) + accC hit A ≤ A.length + 1
    split <;> omega
/-- the least of all keys that hit -/
theorem accK_least {hit : List Nat → Bool} {key : List Nat → Int} : ∀ (A L0 : List (List Nat)) (m : Int), (∀ r, r ∈ L0 ++ A → hit r = true → key r < NOW) → LeastK L0 hit key m → LeastK (L0 ++ A) hit key (accK hit key A m)
  | [], L0, m, _, h => by rw [List.append_nil]; exact h
  | r :: A, L0, m, hb, h => by
    have e : L0 ++ r :: A = (L0 ++ [r]) ++ A := by simp
    rw [e] at hb ⊢
    refine accK_least A (L0 ++ [r]) _ hb ?_
    by_cases z : hit r = true
    · rw [if_pos z]
      have br := hb r (by simp) z
      refine ⟨fun x hx hh => ?_, ?_⟩
      · rw [List.mem_append, List.mem_singleton] at hx
        rcases hx with hx | hx
        · have := h.1 x hx hh; omega
        · rw [hx]; omega
      · right
        rcases h.2 with ⟨h1, h2⟩ | ⟨b, b1, b2, b3⟩
        · exact ⟨r, by simp, z, by omega⟩
        · by_cases y : m ≤ key r
          · exact ⟨b, by simp [b1], b2, by omega⟩
          · exact ⟨r, by simp, z, by omega⟩
    · have z : hit r = false := by cases q : hit r
                                   · rfl
                                   · exact absurd q z
      rw [z]
      refine ⟨fun x hx hh => ?_, ?_⟩
      · rw [List.mem_append, List.mem_singleton] at hx
        rcases hx with hx | hx
        · exact h.1 x hx hh
        · rw [hx, z] at hh; cases hh
      · rcases h.2 with ⟨h1, h2⟩ | ⟨b, b1, b2, b3⟩
        · left
          refine ⟨h1, fun x hx => ?_⟩
          rw [List.mem_append, List.mem_singleton] at hx
          rcases hx with hx | hx
          · exact h2 x hx
          · rw [hx]; exact z
        · exact Or.inr ⟨b, by simp [b1], b2, b3⟩
theorem leastK_nil (hit : List Nat → Bool) (key : List Nat → Int) : LeastK [] hit key NOW := ⟨fun _ h => absurd h (List.not_mem_nil), Or.inl ⟨rfl, fun _ h => absurd h (List.not_mem_nil)⟩⟩
/-- the terms of a question, class side -/
def CtT (vo mt tm ak pn hr : Nat → Int) (wt : Int) (T : Tm) : Prop := (vo 0 = T.P) ∧ (T.P ≤ 8) ∧ (tm 1 = T.n) ∧ (2 ≤ T.n) ∧ (T.n ≤ 6) ∧ (tm 2 = T.back) ∧ (T.back ≤ 3) ∧ (∀ q, q < 8 → tb (tm 6) q = T.ha q) ∧ (∀ p q, p < T.P → q < T.P → ((¬ pn (8 * p + q) = -1 ∧ tb (tm 7) p = true) ↔ T.gv p q = true)) ∧ (∀ p q, p < T.P → q < T.P → T.gv p q = true → pn (8 * p + q) = T.pn p q ∧ hr (8 * p + q) = T.hr p q) ∧ (∀ q, q < T.P → (if (q : Int) = wt then 0 else ak q) = T.ak q) ∧ (∀ p q, p < T.P → q < 8 → tb (mt p) q = decide (q < T.P ∧ T.tw p = T.tw q)) ∧ (∀ p q, T.pn p q ≤ 99) ∧ (∀ p q, T.hr p q ≤ 9) ∧ (∀ q, T.ak q ≤ 99) ∧ (wt = -1 ∨ 0 ≤ wt)
theorem CtT.mk {vo mt tm ak pn hr : Nat → Int} {wt : Int} {T : Tm} (P_ : vo 0 = T.P) (P8_ : T.P ≤ 8) (n_ : tm 1 = T.n) (n2_ : 2 ≤ T.n) (n6_ : T.n ≤ 6) (back_ : tm 2 = T.back) (back3_ : T.back ≤ 3) (hands_ : ∀ q, q < 8 → tb (tm 6) q = T.ha q) (gv_ : ∀ p q, p < T.P → q < T.P → ((¬ pn (8 * p + q) = -1 ∧ tb (tm 7) p = true) ↔ T.gv p q = true)) (pn_ : ∀ p q, p < T.P → q < T.P → T.gv p q = true → pn (8 * p + q) = T.pn p q ∧ hr (8 * p + q) = T.hr p q) (ak_ : ∀ q, q < T.P → (if (q : Int) = wt then 0 else ak q) = T.ak q) (mates_ : ∀ p q, p < T.P → q < 8 → tb (mt p) q = decide (q < T.P ∧ T.tw p = T.tw q)) (pn9_ : ∀ p q, T.pn p q ≤ 99) (hr9_ : ∀ p q, T.hr p q ≤ 9) (ak9_ : ∀ q, T.ak q ≤ 99) (wt0_ : wt = -1 ∨ 0 ≤ wt) : CtT vo mt tm ak pn hr wt T := And.intro P_ (And.intro P8_ (And.intro n_ (And.intro n2_ (And.intro n6_ (And.intro back_ (And.intro back3_ (And.intro hands_ (And.intro gv_ (And.intro pn_ (And.intro ak_ (And.intro mates_ (And.intro pn9_ (And.intro hr9_ (And.intro ak9_ (wt0_)))))))))))))))
theorem CtT.P {vo mt tm ak pn hr : Nat → Int} {wt : Int} {T : Tm} (h_ : CtT vo mt tm ak pn hr wt T) : vo 0 = T.P := h_.1
theorem CtT.P8 {vo mt tm ak pn hr : Nat → Int} {wt : Int} {T : Tm} (h_ : CtT vo mt tm ak pn hr wt T) : T.P ≤ 8 := h_.2.1
theorem CtT.n {vo mt tm ak pn hr : Nat → Int} {wt : Int} {T : Tm} (h_ : CtT vo mt tm ak pn hr wt T) : tm 1 = T.n := h_.2.2.1
theorem CtT.n2 {vo mt tm ak pn hr : Nat → Int} {wt : Int} {T : Tm} (h_ : CtT vo mt tm ak pn hr wt T) : 2 ≤ T.n := h_.2.2.2.1
theorem CtT.n6 {vo mt tm ak pn hr : Nat → Int} {wt : Int} {T : Tm} (h_ : CtT vo mt tm ak pn hr wt T) : T.n ≤ 6 := h_.2.2.2.2.1
theorem CtT.back {vo mt tm ak pn hr : Nat → Int} {wt : Int} {T : Tm} (h_ : CtT vo mt tm ak pn hr wt T) : tm 2 = T.back := h_.2.2.2.2.2.1
theorem CtT.back3 {vo mt tm ak pn hr : Nat → Int} {wt : Int} {T : Tm} (h_ : CtT vo mt tm ak pn hr wt T) : T.back ≤ 3 := h_.2.2.2.2.2.2.1
theorem CtT.hands {vo mt tm ak pn hr : Nat → Int} {wt : Int} {T : Tm} (h_ : CtT vo mt tm ak pn hr wt T) : ∀ q, q < 8 → tb (tm 6) q = T.ha q := h_.2.2.2.2.2.2.2.1
theorem CtT.gv {vo mt tm ak pn hr : Nat → Int} {wt : Int} {T : Tm} (h_ : CtT vo mt tm ak pn hr wt T) : ∀ p q, p < T.P → q < T.P → ((¬ pn (8 * p + q) = -1 ∧ tb (tm 7) p = true) ↔ T.gv p q = true) := h_.2.2.2.2.2.2.2.2.1
theorem CtT.pn {vo mt tm ak pn hr : Nat → Int} {wt : Int} {T : Tm} (h_ : CtT vo mt tm ak pn hr wt T) : ∀ p q, p < T.P → q < T.P → T.gv p q = true → pn (8 * p + q) = T.pn p q ∧ hr (8 * p + q) = T.hr p q := h_.2.2.2.2.2.2.2.2.2.1
theorem CtT.ak {vo mt tm ak pn hr : Nat → Int} {wt : Int} {T : Tm} (h_ : CtT vo mt tm ak pn hr wt T) : ∀ q, q < T.P → (if (q : Int) = wt then 0 else ak q) = T.ak q := h_.2.2.2.2.2.2.2.2.2.2.1
theorem CtT.mates {vo mt tm ak pn hr : Nat → Int} {wt : Int} {T : Tm} (h_ : CtT vo mt tm ak pn hr wt T) : ∀ p q, p < T.P → q < 8 → tb (mt p) q = decide (q < T.P ∧ T.tw p = T.tw q) := h_.2.2.2.2.2.2.2.2.2.2.2.1
theorem CtT.pn9 {vo mt tm ak pn hr : Nat → Int} {wt : Int} {T : Tm} (h_ : CtT vo mt tm ak pn hr wt T) : ∀ p q, T.pn p q ≤ 99 := h_.2.2.2.2.2.2.2.2.2.2.2.2.1
theorem CtT.hr9 {vo mt tm ak pn hr : Nat → Int} {wt : Int} {T : Tm} (h_ : CtT vo mt tm ak pn hr wt T) : ∀ p q, T.hr p q ≤ 9 := h_.2.2.2.2.2.2.2.2.2.2.2.2.2.1
theorem CtT.ak9 {vo mt tm ak pn hr : Nat → Int} {wt : Int} {T : Tm} (h_ : CtT vo mt tm ak pn hr wt T) : ∀ q, T.ak q ≤ 99 := h_.2.2.2.2.2.2.2.2.2.2.2.2.2.2.1
theorem CtT.wt0 {vo mt tm ak pn hr : Nat → Int} {wt : Int} {T : Tm} (h_ : CtT vo mt tm ak pn hr wt T) : wt = -1 ∨ 0 ≤ wt := h_.2.2.2.2.2.2.2.2.2.2.2.2.2.2.2
theorem bit_zero (A : Int) {i : Nat} (hi : i < 31) : iand A (ishl 1 (i : Int)) = 0 ↔ tb A i = false := by
  constructor
  · intro h
    have := congrArg (fun x => tb x i) h
    simp only [tb_and, tb_zero] at this
    rw [show (i : Int) = ((i : Nat) : Int) from rfl, tb_bit (by omega) (by omega)] at this
    simpa using this
  · intro h
    refine tb_ext (iand_in _ _) (by unfold in32; omega) ?_
    intro k hk
    rw [tb_and, tb_bit (by omega) (by omega), tb_zero]
    by_cases z : k = i
    · rw [z, h]; rfl
    · have : decide (k = ((i : Nat) : Int).toNat) = false := by simp; exact z
      rw [this]; simp
theorem tb_not (a : Int) {k : Nat} (hk : k < 32) : tb (ixor a (-1)) k = !(tb a k) := by
  rw [tb_xor, tb_neg1]; simp [hk]
/-- what BACK lets -/
theorem S_lets {d : Nat} {Q : MV → Wd → Prop} {w : Wd} {T : Tm} {wt : Int} {tm ak pn hr : Nat → Int} (c : CtT (w 4) (w 7) tm ak pn hr wt T) (fi : Nat → Bool) (FB hd : Int) (hF : ∀ x, x < 8 → tb FB x = fi x) (pre : List Nat) (hp : ∀ x, x ∈ pre → x < T.P) (h0 : 0 ≤ hd ∧ hd < 256) (hh : ∀ x, x < 8 → tb hd x = pre.contains x) (q : Nat) (hq : q < T.P)
    (k : Q (mI (if (if T.back = 1 then (!(pre.contains q) || fi q) else if T.back = 2 then (!(pre.contains q) && !(fi q)) else if T.back = 3 then !(pre.any (fun x => T.tw x == T.tw q)) else true) = true then 1 else 0)) w) : Cw (d + 1) 67 [mR 4, mI T.back, mI FB, mI hd, mI q] w Q := by
  have P8 := c.P8
  have b3 := c.back3
  have hq8 : q < 8 := by omega
  have e1 := hh q hq8
  have e2 := hF q hq8
  apply Village_lets_4_en
  refine ⟨fun z => ?_, fun z => ⟨fun z2 => ?_, fun z2 => ⟨fun z3 => ?_, fun z3 => ?_⟩⟩⟩
  · rw [if_pos (show T.back = 1 by omega)] at k
    rw [bit_zero _ (by omega), tb_and, tb_not _ (by omega), e1, e2]
    cases a : pre.contains q <;> cases b : fi q <;> rw [a, b] at k <;> simp at k ⊢ <;> exact k
  · rw [if_neg (show ¬ T.back = 1 by omega), if_pos (show T.back = 2 by omega)] at k
    rw [bit_zero _ (by omega), tb_or, e1, e2]
    cases a : pre.contains q <;> cases b : fi q <;> rw [a, b] at k <;> simp at k ⊢ <;> exact k
  · rw [if_neg (show ¬ T.back = 1 by omega), if_neg (show ¬ T.back = 2 by omega), if_pos (show T.back = 3 by omega)] at k
    (refine And.intro (by omega) ?_)
    rw [Int.toNat_natCast]
    have key : iand hd (w 7 q) = 0 ↔ pre.any (fun x => T.tw x == T.tw q) = false := by
      constructor
      · intro h
        cases a : pre.any (fun x => T.tw x == T.tw q)
        · rfl
        · exfalso
          rw [List.any_eq_true] at a
          obtain ⟨x, x1, x2⟩ := a
          have xp := hp x x1
          have t1 : tb hd x = true := by rw [hh x (by omega)]; exact List.contains_iff_mem.mpr x1
          have t2 : tb (w 7 q) x = true := by rw [c.mates q x hq (by omega)]; simp [xp]; exact (beq_iff_eq.mp x2).symm
          have := congrArg (fun y => tb y x) h
          simp only [tb_and, tb_zero, t1, t2] at this
          cases this
      · intro h
        refine tb_ext (iand_in _ _) (by unfold in32; omega) ?_
        intro i hi
        rw [tb_and, tb_zero]
        by_cases y : i < 8
        · cases a : tb hd i
          · rfl
          · rw [hh i y] at a
            have am := List.contains_iff_mem.mp a
            rw [c.mates q i hq y, Bool.true_and, decide_eq_false_iff_not]
            intro z4
            have : pre.any (fun x => T.tw x == T.tw q) = true := List.any_eq_true.mpr ⟨i, am, by simp [z4.2]⟩
            rw [h] at this; cases this
        · obtain ⟨hn, hn2⟩ := Int.eq_ofNat_of_zero_le h0.1
          have : tb hd i = false := by
            rw [hn2, tb_nat _ _ (by omega)]
            exact Nat.testBit_lt_two_pow (Nat.lt_of_lt_of_le (show hn < 2 ^ 8 by omega) (Nat.pow_le_pow_right (by omega) (by omega)))
          rw [this]; rfl
    cases a : pre.any (fun x => T.tw x == T.tw q)
    · rw [a] at k
      have := key.mpr a
      (repeat' (apply spl <;> intro))
      · rename_i y; exact absurd this y
      · exact k
    · rw [a] at k
      have : ¬ iand hd (w 7 q) = 0 := fun y => by rw [key.mp y] at a; cases a
      (repeat' (apply spl <;> intro))
      · exact k
      · rename_i y; exact absurd this y
  · rw [if_neg (show ¬ T.back = 1 by omega), if_neg (show ¬ T.back = 2 by omega), if_neg (show ¬ T.back = 3 by omega)] at k
    exact k
