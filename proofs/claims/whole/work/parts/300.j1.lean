/-! lies: what is true together, without a set -/
def hoN (s : Nat → Int) (S : NS) (B : Nat) : Nat → Int
  | 0 => -1
  | k + 1 => if B.testBit (S.so k) then hoN s S B k else s (487 + 4 * S.of (S.so k))
def folN (s : Nat → Int) (u : Nat) (S : NS) (B k : Nat) : Bool := if hoN s S B k < 0 then (decide (s (31 + 5 * u) = s (486 + 4 * S.of (S.so k))) || decide (s (32 + 5 * u) = s (486 + 4 * S.of (S.so k)))) else decide (s (486 + 4 * S.of (S.so k)) = hoN s S B k)
def trN (s : Nat → Int) (u : Nat) (S : NS) (B : Nat) : Nat → Bool
  | 0 => true
  | k + 1 => trN s u S B k && (B.testBit (S.so k) || (decide (s (33 + 5 * u) ≤ s (488 + 4 * S.of (S.so k))) && folN s u S B k))
theorem trN_mono {s : Nat → Int} {u : Nat} {S : NS} {B a : Nat} : ∀ {n : Nat}, a ≤ n → trN s u S B n = true → trN s u S B a = true
  | 0, h, g => by
    have : a = 0 := by omega
    subst this; rfl
  | n + 1, h, g => by
    by_cases z : a = n + 1
    · rw [z]; exact g
    · have g : (trN s u S B n && _) = true := g
      rw [Bool.and_eq_true] at g
      exact trN_mono (by omega) g.1
theorem trN_stop {s : Nat → Int} {u : Nat} {S : NS} {B k n : Nat} (h : k + 1 ≤ n) (g : trN s u S B (k + 1) = false) : trN s u S B n = false := by
  cases z : trN s u S B n
  · rfl
  · rw [trN_mono h z] at g; cases g
theorem hoN_nn {s : Nat → Int} {S : NS} {B N : Nat} (hof : ∀ r, r < S.n → S.of r < N) (hso : ∀ a, a < S.n → S.so a < S.n) (hto : ∀ i, i < N → 0 ≤ s (487 + 4 * i)) : ∀ {k : Nat}, k ≤ S.n → hoN s S B k = -1 ∨ 0 ≤ hoN s S B k
  | 0, _ => Or.inl rfl
  | k + 1, h => by
    have h1 := hoN_nn hof hso hto (B := B) (k := k) (by omega)
    show (if B.testBit (S.so k) then hoN s S B k else s (487 + 4 * S.of (S.so k))) = -1 ∨ 0 ≤ (if B.testBit (S.so k) then hoN s S B k else s (487 + 4 * S.of (S.so k)))
    by_cases z : B.testBit (S.so k) = true
    · rw [if_pos z]; exact h1
    · rw [if_neg z]; exact Or.inr (hto _ (hof _ (hso k (by omega))))
theorem first2 {m p f : Nat} (hm : m < 8) (hp : p < 8) (hf : f < 8) : iand (ishr (ior (ishl 1 (m : Int)) (ishl 1 (p : Int))) (f : Int)) 1 = if decide ((m : Int) = f) || decide ((p : Int) = f) then 1 else 0 := by
  rw [hasbit _ (by omega), tb_or, tb_bit (by omega) (by omega), tb_bit (by omega) (by omega), Int.toNat_natCast, Int.toNat_natCast]
  have e1 : decide (f = m) = decide ((m : Int) = f) := decide_eq_decide.mpr ⟨fun h => by omega, fun h => by omega⟩
  have e2 : decide (f = p) = decide ((p : Int) = f) := decide_eq_decide.mpr ⟨fun h => by omega, fun h => by omega⟩
  rw [e1, e2]
theorem first1 {m f : Nat} (hm : m < 8) (hf : f < 8) : iand (ishr (ior (ishl 1 (m : Int)) 0) (f : Int)) 1 = if decide ((m : Int) = f) then 1 else 0 := by
  rw [hasbit _ (by omega), tb_or, tb_bit (by omega) (by omega), Int.toNat_natCast, tb_zero, Bool.or_false]
  have e1 : decide (f = m) = decide ((m : Int) = f) := decide_eq_decide.mpr ⟨fun h => by omega, fun h => by omega⟩
  rw [e1]
/-- what the class's book holds of the notes of one unit -/
def BkW (w : Wd) (s : Nat → Int) (u N : Nat) (S : NS) : Prop := (S.n ≤ 8) ∧ (N ≤ 40) ∧ (∀ a, a < S.n → S.so a < S.n) ∧ (∀ r, r < S.n → S.of r < N) ∧ (∀ i, i < N → ∃ f : Nat, f < 8 ∧ s (486 + 4 * i) = f) ∧ (∀ i, i < N → ∃ f : Nat, f < 8 ∧ s (487 + 4 * i) = f) ∧ (∃ m : Nat, m < 8 ∧ s (31 + 5 * u) = m) ∧ (s (32 + 5 * u) = -1 ∨ ∃ p : Nat, p < 8 ∧ s (32 + 5 * u) = p) ∧ (u < 16)
theorem BkW.mk {w : Wd} {s : Nat → Int} {u N : Nat} {S : NS} (n8_ : S.n ≤ 8) (N40_ : N ≤ 40) (so_ : ∀ a, a < S.n → S.so a < S.n) (of_ : ∀ r, r < S.n → S.of r < N) (fr_ : ∀ i, i < N → ∃ f : Nat, f < 8 ∧ s (486 + 4 * i) = f) (to_ : ∀ i, i < N → ∃ f : Nat, f < 8 ∧ s (487 + 4 * i) = f) (mak_ : ∃ m : Nat, m < 8 ∧ s (31 + 5 * u) = m) (par_ : s (32 + 5 * u) = -1 ∨ ∃ p : Nat, p < 8 ∧ s (32 + 5 * u) = p) (u16_ : u < 16) : BkW w s u N S := And.intro n8_ (And.intro N40_ (And.intro so_ (And.intro of_ (And.intro fr_ (And.intro to_ (And.intro mak_ (And.intro par_ (u16_))))))))
theorem BkW.n8 {w : Wd} {s : Nat → Int} {u N : Nat} {S : NS} (h_ : BkW w s u N S) : S.n ≤ 8 := h_.1
theorem BkW.N40 {w : Wd} {s : Nat → Int} {u N : Nat} {S : NS} (h_ : BkW w s u N S) : N ≤ 40 := h_.2.1
theorem BkW.so {w : Wd} {s : Nat → Int} {u N : Nat} {S : NS} (h_ : BkW w s u N S) : ∀ a, a < S.n → S.so a < S.n := h_.2.2.1
theorem BkW.of {w : Wd} {s : Nat → Int} {u N : Nat} {S : NS} (h_ : BkW w s u N S) : ∀ r, r < S.n → S.of r < N := h_.2.2.2.1
theorem BkW.fr {w : Wd} {s : Nat → Int} {u N : Nat} {S : NS} (h_ : BkW w s u N S) : ∀ i, i < N → ∃ f : Nat, f < 8 ∧ s (486 + 4 * i) = f := h_.2.2.2.2.1
theorem BkW.to {w : Wd} {s : Nat → Int} {u N : Nat} {S : NS} (h_ : BkW w s u N S) : ∀ i, i < N → ∃ f : Nat, f < 8 ∧ s (487 + 4 * i) = f := h_.2.2.2.2.2.1
theorem BkW.mak {w : Wd} {s : Nat → Int} {u N : Nat} {S : NS} (h_ : BkW w s u N S) : ∃ m : Nat, m < 8 ∧ s (31 + 5 * u) = m := h_.2.2.2.2.2.2.1
theorem BkW.par {w : Wd} {s : Nat → Int} {u N : Nat} {S : NS} (h_ : BkW w s u N S) : s (32 + 5 * u) = -1 ∨ ∃ p : Nat, p < 8 ∧ s (32 + 5 * u) = p := h_.2.2.2.2.2.2.2.1
theorem BkW.u16 {w : Wd} {s : Nat → Int} {u N : Nat} {S : NS} (h_ : BkW w s u N S) : u < 16 := h_.2.2.2.2.2.2.2.2
theorem S_bookTrue {d : Nat} {Q : MV → Wd → Prop} {w : Wd} {s : Nat → Int} {u N : Nat} {S : NS} (b : BkW w s u N S) (B : Nat) (hB : B < 1024) (h41 : ∀ i, i < S.n → w 41 i = S.of (S.so i) ∧ w 42 i = S.so i) (h38 : ∀ i, i < N → w 38 i = s (486 + 4 * i) ∧ w 39 i = s (487 + 4 * i) ∧ w 40 i = s (488 + 4 * i)) (h11 : w 11 (5 * u + 1) = s (31 + 5 * u) ∧ w 11 (5 * u + 2) = s (32 + 5 * u) ∧ w 11 (5 * u + 3) = s (33 + 5 * u))
    (k : Q (mI (if trN s u S B S.n then 1 else 0)) w) : Cw (d + 3) 162 [mR 36, mI u, mI S.n, mI B, mR 4] w Q := by
  have n8 := b.n8
  have N40 := b.N40
  have u16 := b.u16
  obtain ⟨m, m8, hm⟩ := b.mak
  apply Book_areTrue_36_4_en
  intro n1
  have lp : ∀ (r i : Nat), i + r = S.n → trN s u S B i = true → Wp (Cw (d + 2)) cd_Book_areTrue (2, 0, n1) Q 4 [mR 36, mI u, mI S.n, mI B, mR 4, mI (hoN s S B i), mI i, none, none] [] w := by
    intro r
    induction r with
    | zero =>
      intro i hi ht
      have : i = S.n := by omega
      apply Book_areTrue_36_4_c4
      rw [← this, ht] at k
      exact ⟨fun _ => k, fun z => absurd (by omega) z⟩
    | succ r ih =>
      intro i hi ht
      obtain ⟨e41, e42⟩ := h41 i (by omega)
      have so1 := b.so i (by omega)
      have of1 := b.of _ so1
      obtain ⟨e38, e39, e40⟩ := h38 _ of1
      obtain ⟨f, f8, hf⟩ := b.fr _ of1
      obtain ⟨t, t8, hto⟩ := b.to _ of1
      have hn := hoN_nn (s := s) (S := S) (B := B) b.of b.so (fun i hi => by obtain ⟨f, _, h⟩ := b.to i hi; omega) (k := i) (by omega)
      have es : trN s u S B (i + 1) = (B.testBit (S.so i) || (decide (s (33 + 5 * u) ≤ s (488 + 4 * S.of (S.so i))) && folN s u S B i)) := by
        show (trN s u S B i && _) = _
        rw [ht, Bool.true_and]
      have eh : hoN s S B (i + 1) = if B.testBit (S.so i) then hoN s S B i else s (487 + 4 * S.of (S.so i)) := rfl
      have eF : folN s u S B i = if hoN s S B i < 0 then (decide (s (31 + 5 * u) = s (486 + 4 * S.of (S.so i))) || decide (s (32 + 5 * u) = s (486 + 4 * S.of (S.so i)))) else decide (s (486 + 4 * S.of (S.so i)) = hoN s S B i) := rfl
      have i1 := ih (i + 1) (by omega)
      have st : trN s u S B (i + 1) = false → Q (mI 0) w := fun q => by
        rw [trN_stop (by omega) q] at k; exact k
      have nb : ¬ (S.n : Int) ≤ (i : Int) := by omega
      have r8 : 0 ≤ (i : Int) ∧ (i : Int) < 8 := by omega
      have rN : 0 ≤ ((S.of (S.so i) : Nat) : Int) ∧ ((S.of (S.so i) : Nat) : Int) < 40 := by omega
      apply Book_areTrue_36_4_c4
      rw [Int.toNat_natCast, e41, e42, Int.toNat_natCast, e38, e39, e40, ix5_1 (by omega), ix5_2 (by omega), ix5_3 (by omega), Int.toNat_natCast, Int.toNat_natCast, Int.toNat_natCast, h11.1, h11.2.1, h11.2.2, bit_nat (by omega) (by omega), ixs (k := i) (by omega)]
      refine ⟨fun z => absurd z nb, fun _ => ⟨r8, fun z => ?_, fun z => ?_⟩⟩
      · have zb : B.testBit (S.so i) = false := by
          cases q : B.testBit (S.so i)
          · rfl
          · rw [q] at z; exact absurd z (by simp)
        rw [zb, Bool.false_or] at es
        rw [zb] at eh
        simp only [Bool.false_eq_true, if_false] at eh
        rw [eh] at i1
        have tail : folN s u S B i = true → (0 ≤ ((S.of (S.so i) : Nat) : Int) ∧ ((S.of (S.so i) : Nat) : Int) < 40) ∧ ((0 ≤ ((5 * u + 3 : Nat) : Int) ∧ ((5 * u + 3 : Nat) : Int) < 80) ∧ ((s (33 + 5 * u) ≤ s (488 + 4 * S.of (S.so i)) → ((0 ≤ ((S.of (S.so i) : Nat) : Int) ∧ ((S.of (S.so i) : Nat) : Int) < 40) ∧ Wp (Cw (d + 2)) cd_Book_areTrue (2, 0, n1) Q 4 [mR 36, mI u, mI S.n, mI B, mR 4, mI (s (487 + 4 * S.of (S.so i))), mI ((i + 1 : Nat) : Int), none, none] [] w)) ∧ (¬ (s (33 + 5 * u) ≤ s (488 + 4 * S.of (S.so i))) → Q (mI 0) w))) := by
          intro hfo
          rw [hfo, Bool.and_true] at es
          refine ⟨rN, by omega, fun q => ⟨rN, i1 ?_⟩, fun q => st ?_⟩
          · rw [es]; exact decide_eq_true q
          · rw [es]; exact decide_eq_false q
        have stF : folN s u S B i = false → Q (mI 0) w := fun q => st (by rw [es, q, Bool.and_false])
        refine ⟨r8, fun zh => ?_, fun zh => ?_⟩
        · have nn : ¬ hoN s S B i < 0 := by omega
          rw [if_neg nn] at eF
          refine ⟨rN, fun q => stF ?_, fun q => tail ?_⟩
          · rw [eF]; exact decide_eq_false (fun y => q y.symm)
          · rw [eF]; exact decide_eq_true (Classical.not_not.mp q).symm
        · have nn : hoN s S B i < 0 := by omega
          rw [if_pos nn] at eF
          have r1 : 0 ≤ ((5 * u + 1 : Nat) : Int) ∧ ((5 * u + 1 : Nat) : Int) < 80 := by omega
          have r2 : 0 ≤ ((5 * u + 2 : Nat) : Int) ∧ ((5 * u + 2 : Nat) : Int) < 80 := by omega
          refine ⟨r2, r1, fun zp => ?_, fun zp => ?_⟩
          · rcases b.par with q | ⟨p, p8, hp⟩
            · exact absurd q zp
            · rw [hm, hp, hf] at eF ⊢
              rw [first2 m8 p8 f8, ← eF]
              refine ⟨rN, fun q => stF ?_, fun q => tail ?_⟩
              · cases y : folN s u S B i
                · rfl
                · rw [y] at q; exact absurd q (by simp)
              · cases y : folN s u S B i
                · rw [y] at q; exact absurd (by simp) q
                · rfl
          · have zp := Classical.not_not.mp zp
            have e0 : decide (s (32 + 5 * u) = s (486 + 4 * S.of (S.so i))) = false := decide_eq_false (by omega)
            rw [e0, Bool.or_false, hm, hf] at eF
            rw [hm, hf, first1 m8 f8, ← eF]
            refine ⟨rN, fun q => stF ?_, fun q => tail ?_⟩
            · cases y : folN s u S B i
              · rfl
              · rw [y] at q; exact absurd q (by simp)
            · cases y : folN s u S B i
              · rw [y] at q; exact absurd (by simp) q
              · rfl
      · have zb : B.testBit (S.so i) = true := by
          cases q : B.testBit (S.so i)
          · rw [q] at z; exact absurd (by simp) z
          · rfl
        rw [zb, Bool.true_or] at es
        rw [zb, if_pos rfl] at eh
        rw [eh] at i1
        exact i1 es
  exact lp S.n 0 (by omega) rfl
theorem ub_ub (w : Wd) (c i : Nat) (x y : Int) : ub (ub w c i x) c i y = ub w c i y := by
  funext c' j
  simp only [ub_ap]
  by_cases q : c' = c
  · by_cases q2 : j = i <;> simp [q, q2]
  · simp [q]
theorem S_refTrue {d : Nat} {Q : MV → Wd → Prop} {w : Wd} {s : Nat → Int} {u N : Nat} {S : NS} (b : BkW w s u N S) (B : Nat) (hB : B < 1024) (es : w 146 = s) (h75 : w 144 75 = S.n) (h180 : ∀ r, r < S.n → w 180 r = 485 + 4 * S.of r) (h181 : ∀ i, i < S.n → w 181 i = S.so i)
    (k : ∀ x, (trN s u S B S.n = true → x = hoN s S B S.n) → Q (mI (if trN s u S B S.n then 1 else 0)) (ub w 144 76 x)) : Cw (d + 2) 272 [mR 144, mI u, mI B] w Q := by
  have n8 := b.n8
  have N40 := b.N40
  have u16 := b.u16
  obtain ⟨m, m8, hm⟩ := b.mak
  apply M_areTrue_144_en
  intro n1
  have lp : ∀ (r i : Nat), i + r = S.n → trN s u S B i = true → Wp (Cw (d + 1)) cd_M_areTrue (2, 0, n1) Q 5 [mR 144, mI u, mI B, mI i, none] [] (ub w 144 76 (hoN s S B i)) := by
    intro r
    induction r with
    | zero =>
      intro i hi ht
      have : i = S.n := by omega
      subst this
      apply M_areTrue_144_c5
      have k1 := k (hoN s S B S.n) (fun _ => rfl)
      rw [ht] at k1
      refine ⟨fun _ => k1, fun z => absurd ?_ z⟩
      show w 144 75 ≤ _
      rw [h75]; omega
    | succ r ih =>
      intro i hi ht
      have e181 : (ub w 144 76 (hoN s S B i)) 181 i = S.so i := h181 i (by omega)
      have so1 := b.so i (by omega)
      have of1 := b.of _ so1
      have e180 : (ub w 144 76 (hoN s S B i)) 180 (S.so i) = 485 + 4 * (S.of (S.so i) : Nat) := h180 _ so1
      obtain ⟨f, f8, hf⟩ := b.fr _ of1
      obtain ⟨t, t8, hto⟩ := b.to _ of1
      have hn := hoN_nn (s := s) (S := S) (B := B) b.of b.so (fun i hi => by obtain ⟨f, _, h⟩ := b.to i hi; omega) (k := i) (by omega)
      have et : trN s u S B (i + 1) = (B.testBit (S.so i) || (decide (s (33 + 5 * u) ≤ s (488 + 4 * S.of (S.so i))) && folN s u S B i)) := by
        show (trN s u S B i && _) = _
        rw [ht, Bool.true_and]
      have eh : hoN s S B (i + 1) = if B.testBit (S.so i) then hoN s S B i else s (487 + 4 * S.of (S.so i)) := rfl
      have eF : folN s u S B i = if hoN s S B i < 0 then (decide (s (31 + 5 * u) = s (486 + 4 * S.of (S.so i))) || decide (s (32 + 5 * u) = s (486 + 4 * S.of (S.so i)))) else decide (s (486 + 4 * S.of (S.so i)) = hoN s S B i) := rfl
      have i1 := ih (i + 1) (by omega)
      have st : trN s u S B (i + 1) = false → Q (mI 0) (ub w 144 76 (hoN s S B i)) := fun q => by
        have q2 := trN_stop (n := S.n) (by omega) q
        have k1 := k (hoN s S B i) (fun y => by rw [q2] at y; cases y)
        rw [q2] at k1; exact k1
      have e75 : (ub w 144 76 (hoN s S B i)) 144 75 = S.n := h75
      have e76 : (ub w 144 76 (hoN s S B i)) 144 76 = hoN s S B i := by rw [ub_ap, if_pos rfl, if_pos rfl]
      have e146 : (ub w 144 76 (hoN s S B i)) 146 = s := es
      have nb : ¬ (S.n : Int) ≤ (i : Int) := by omega
      have r8 : 0 ≤ (i : Int) ∧ (i : Int) < 8 := by omega
      have rS : 0 ≤ ((S.so i : Nat) : Int) ∧ ((S.so i : Nat) : Int) < 8 := by omega
      have x1 : w32 (485 + 4 * ((S.of (S.so i) : Nat) : Int) + 1) = ((486 + 4 * S.of (S.so i) : Nat) : Int) := by rw [w32_id (by unfold in32; omega)]; omega
      have x2 : w32 (485 + 4 * ((S.of (S.so i) : Nat) : Int) + 2) = ((487 + 4 * S.of (S.so i) : Nat) : Int) := by rw [w32_id (by unfold in32; omega)]; omega
      have x3 : w32 (485 + 4 * ((S.of (S.so i) : Nat) : Int) + 3) = ((488 + 4 * S.of (S.so i) : Nat) : Int) := by rw [w32_id (by unfold in32; omega)]; omega
      have y1 : 0 ≤ ((486 + 4 * S.of (S.so i) : Nat) : Int) ∧ ((486 + 4 * S.of (S.so i) : Nat) : Int) < 645 := by omega
      have y2 : 0 ≤ ((487 + 4 * S.of (S.so i) : Nat) : Int) ∧ ((487 + 4 * S.of (S.so i) : Nat) : Int) < 645 := by omega
      have y3 : 0 ≤ ((488 + 4 * S.of (S.so i) : Nat) : Int) ∧ ((488 + 4 * S.of (S.so i) : Nat) : Int) < 645 := by omega
      have v2 : 0 ≤ ((31 + 5 * u : Nat) : Int) ∧ ((31 + 5 * u : Nat) : Int) < 645 := by omega
      have v3 : 0 ≤ ((32 + 5 * u : Nat) : Int) ∧ ((32 + 5 * u : Nat) : Int) < 645 := by omega
      have v4 : 0 ≤ ((33 + 5 * u : Nat) : Int) ∧ ((33 + 5 * u : Nat) : Int) < 645 := by omega
      apply M_areTrue_144_c5
      rw [Int.toNat_natCast, e181, Int.toNat_natCast, e180, x1, x2, x3, ixu_2 (by omega), ixu_3 (by omega), ixu_4 (by omega), Int.toNat_natCast, Int.toNat_natCast, Int.toNat_natCast, Int.toNat_natCast, Int.toNat_natCast, Int.toNat_natCast, e75, e76, e146, bit_nat (by omega) (by omega), ixs (k := i) (by omega), ub_ub]
      refine ⟨fun z => absurd z nb, fun _ => ⟨r8, fun z => ?_, fun z => ?_⟩⟩
      · have zb : B.testBit (S.so i) = false := by
          cases q : B.testBit (S.so i)
          · rfl
          · rw [q] at z; exact absurd rfl z
        rw [zb, Bool.false_or] at et
        rw [zb] at eh
        simp only [Bool.false_eq_true, if_false] at eh
        rw [eh] at i1
        refine ⟨r8, rS, y3, v4, fun zq => ?_, fun zq => st (by rw [et, decide_eq_false zq, Bool.false_and])⟩
        rw [decide_eq_true zq, Bool.true_and] at et
        rw [et] at i1 st
        refine ⟨fun zh => ?_, fun zh => ?_⟩
        · have nn : ¬ hoN s S B i < 0 := by omega
          rw [if_neg nn] at eF
          rw [eF] at i1 st
          exact ⟨y1, fun q => ⟨y2, i1 (decide_eq_true q)⟩, fun q => st (decide_eq_false q)⟩
        · have nn : hoN s S B i < 0 := by omega
          rw [if_pos nn] at eF
          rw [eF] at i1 st
          refine ⟨y1, v2, fun q => ⟨y2, i1 (by rw [decide_eq_true q, Bool.true_or])⟩, fun q => ⟨v3, fun q2 => st (by rw [decide_eq_false q, decide_eq_false q2, Bool.or_false]), fun q2 => ⟨y2, i1 (by rw [decide_eq_true (Classical.not_not.mp q2), Bool.or_true])⟩⟩⟩
      · have zb : B.testBit (S.so i) = true := by
          cases q : B.testBit (S.so i)
          · rw [q] at z; exact absurd (by decide) z
          · rfl
        rw [zb, Bool.true_or] at et
        rw [zb, if_pos rfl] at eh
        rw [eh] at i1
        exact i1 et
  exact lp S.n 0 (by omega) rfl
