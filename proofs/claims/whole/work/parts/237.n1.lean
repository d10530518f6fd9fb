abbrev NS : Type := (Nat) × (Nat → Nat) × (Nat → Nat)
abbrev NS.n (h_ : NS) : Nat := h_.1
abbrev NS.so (h_ : NS) : Nat → Nat := h_.2.1
abbrev NS.of (h_ : NS) : Nat → Nat := h_.2.2
def fpos (s : Nat → Int) (so of : Nat → Nat) (hk : Int) : Nat → Nat
  | 0 => 0
  | a + 1 => if s (488 + 4 * of (so a)) ≤ hk then a + 1 else fpos s so of hk a
def nins (S : NS) (at' k : Nat) : NS := ⟨S.n + 1, fun i => if i < at' then S.so i else if i = at' then S.n else S.so (i - 1), fun i => if i = S.n then k else S.of i⟩
def nst (s : Nat → Int) (u : Int) : Nat → NS
  | 0 => ⟨0, fun _ => 0, fun _ => 0⟩
  | k + 1 => if s (485 + 4 * k) = u then nins (nst s u k) (fpos s (nst s u k).so (nst s u k).of (s (488 + 4 * k)) (nst s u k).n) k else nst s u k
theorem fpos_le (s : Nat → Int) (so of : Nat → Nat) (hk : Int) : ∀ a, fpos s so of hk a ≤ a
  | 0 => Nat.le_refl _
  | a + 1 => by unfold fpos; split
                · omega
                · have := fpos_le s so of hk a; omega
theorem nst_n (s : Nat → Int) (u : Int) : ∀ k, (nst s u k).n = cntN s u k
  | 0 => rfl
  | k + 1 => by
    unfold nst cntN
    have := nst_n s u k
    split
    · show (nst s u k).n + 1 = _; omega
    · omega
theorem nst_ok (s : Nat → Int) (u : Int) : ∀ k, (∀ a, a < (nst s u k).n → (nst s u k).so a < (nst s u k).n) ∧ (∀ r, r < (nst s u k).n → (nst s u k).of r < k)
  | 0 => ⟨fun a h => absurd h (Nat.not_lt_zero _), fun a h => absurd h (Nat.not_lt_zero _)⟩
  | k + 1 => by
    obtain ⟨h1, h2⟩ := nst_ok s u k
    unfold nst
    split
    · have hf := fpos_le s (nst s u k).so (nst s u k).of (s (488 + 4 * k)) (nst s u k).n
      refine ⟨fun a ha => ?_, fun r hr => ?_⟩
      · have ha : a < (nst s u k).n + 1 := ha
        show (if a < _ then (nst s u k).so a else if a = _ then (nst s u k).n else (nst s u k).so (a - 1)) < (nst s u k).n + 1
        split
        · have := h1 a (by omega); omega
        · split
          · omega
          · have := h1 (a - 1) (by omega); omega
      · have hr : r < (nst s u k).n + 1 := hr
        show (if r = (nst s u k).n then k else (nst s u k).of r) < k + 1
        split
        · omega
        · have := h2 r (by omega); omega
    · exact ⟨h1, fun r hr => by have := h2 r hr; omega⟩
theorem cntN_mono (s : Nat → Int) (u : Int) {a b : Nat} (h : a ≤ b) : cntN s u a ≤ cntN s u b := by
  induction h with
  | refl => exact Nat.le_refl _
  | step _ ih => exact Nat.le_trans ih (by show _ ≤ cntN s u _ + _; omega)
theorem L_notesI {d : Nat} {n1 : Int} {Q : MV → Wd → Prop} (s : Nat → Int) (u : Int) (k : Nat) (S : NS) (hn : S.n < 8) (hk : k < 40) (so1 : ∀ a, a < S.n → S.so a < S.n) (of1 : ∀ r, r < S.n → S.of r < 40) :
    ∀ (a : Nat) (w : Wd), a ≤ S.n → w 146 = s → w 144 75 = S.n → (∀ r, r < S.n → w 180 r = 485 + 4 * S.of r) → (∀ i, i < a → w 181 i = S.so i) → (∀ i, a < i → i ≤ S.n → w 181 i = S.so (i - 1)) → fpos s S.so S.of (s (488 + 4 * k)) S.n = fpos s S.so S.of (s (488 + 4 * k)) a →
      (∀ g : Nat → Int, (∀ i, i < S.n + 1 → g i = (nins S (fpos s S.so S.of (s (488 + 4 * k)) S.n) k).so i) → Wp (Cw (d + 0)) cd_M_notesOf (0, 0, n1) Q 5 [mR 144, mI u, mI (k + 1), none] [] (ub (ubf w 181 g) 144 75 (S.n + 1))) →
      Wp (Cw (d + 0)) cd_M_notesOf (0, 0, n1) Q 35 [mR 144, mI u, mI k, mI a] [] w
  | 0, w, ha, hs, h75, h180, hlo, hhi, hf, c => by
    apply M_notesOf_144_c35
    (repeat' (apply spl <;> intro))
    · (refine And.intro (by omega) ?_)
      rw [w32_id (x := (k : Int) + 1) (by unfold in32; omega), h75, w32_id (x := (S.n : Int) + 1) (by unfold in32; omega)]
      have c1 := c (up1 (w 181) 0 S.n) (fun i hi => by
        show up1 (w 181) 0 S.n i = ((if i < _ then S.so i else if i = _ then S.n else S.so (i - 1) : Nat) : Int)
        rw [hf]
        unfold fpos
        rw [up1_ap, if_neg (Nat.not_lt_zero i)]
        by_cases q : i = 0
        · rw [if_pos q, if_pos q]
        · rw [if_neg q, if_neg q, hhi i (by omega) (by omega)])
      exact c1
    · exfalso; omega
  | a + 1, w, ha, hs, h75, h180, hlo, hhi, hf, c => by
    have e1 := hlo a (by omega)
    have b1 := so1 a (by omega)
    have e2 := h180 (S.so a) b1
    have b2 := of1 (S.so a) b1
    have i0 : (((a + 1 : Nat) : Int) - 1).toNat = a := by omega
    have i1 : ((S.so a : Nat) : Int).toNat = S.so a := Int.toNat_natCast _
    have i2 : (485 + 4 * ((S.of (S.so a) : Nat) : Int) + 3).toNat = 488 + 4 * S.of (S.so a) := by omega
    have i3 : (485 + 4 * (k : Int) + 3).toNat = 488 + 4 * k := by omega
    apply M_notesOf_144_c35
    rw [w32_id (x := ((a + 1 : Nat) : Int) - 1) (by unfold in32; omega), i0, e1, i1, e2, w32_id (x := 4 * (k : Int)) (by unfold in32; omega), w32_id (x := 485 + 4 * (k : Int)) (by unfold in32; omega), w32_id (x := 485 + 4 * (k : Int) + 3) (by unfold in32; omega), w32_id (x := 485 + 4 * ((S.of (S.so a) : Nat) : Int) + 3) (by unfold in32; omega), i2, i3, hs]
    (repeat' (apply spl <;> intro))
    · exfalso; omega
    · (refine And.intro (by omega) ?_)
      (refine And.intro (by omega) ?_)
      (refine And.intro (by omega) ?_)
      (refine And.intro (by omega) ?_)
      (repeat' (apply spl <;> intro))
      · rename_i q
        (refine And.intro (by omega) ?_)
        rw [w32_id (x := (k : Int) + 1) (by unfold in32; omega), h75, w32_id (x := (S.n : Int) + 1) (by unfold in32; omega)]
        have c1 := c (up1 (w 181) (a + 1) S.n) (fun i hi => by
          show up1 (w 181) (a + 1) S.n i = ((if i < _ then S.so i else if i = _ then S.n else S.so (i - 1) : Nat) : Int)
          rw [hf]
          unfold fpos
          rw [if_pos q, up1_ap]
          by_cases q1 : i = a + 1
          · rw [if_pos q1, if_neg (by omega), if_pos q1]
          · rw [if_neg q1]
            by_cases q2 : i < a + 1
            · rw [if_pos q2, hlo i q2]
            · rw [if_neg q2, if_neg q1, hhi i (by omega) (by omega)])
        exact c1
      · rename_i q
        (refine And.intro (by omega) ?_)
        (refine And.intro (by omega) ?_)
        rw [w32_id (x := ((a + 1 : Nat) : Int) + (-1)) (by unfold in32; omega), show ((a + 1 : Nat) : Int) + (-1) = (a : Int) by omega]
        refine L_notesI s u k S hn hk so1 of1 a _ (by omega) hs h75 h180 ?_ ?_ ?_ ?_
        · intro i hi
          show up1 (w 181) (a + 1) _ i = _
          rw [up1_ap, if_neg (by omega), hlo i (by omega)]
        · intro i hi hi2
          show up1 (w 181) (a + 1) _ i = _
          rw [up1_ap]
          by_cases q1 : i = a + 1
          · rw [if_pos q1, q1]; rfl
          · rw [if_neg q1, hhi i (by omega) hi2]
        · rw [hf]
          conv => lhs; unfold fpos
          rw [if_neg q]
        · intro g hg
          refine Eq.mp ?_ (c g hg)
          congr 1
          (funext c i; simp (decide := true) only [ub_ap, ubf_ap, up1_ap, ↓reduceIte]; (repeat' split) <;> first | rfl | omega | (simp_all; done) | (subst_vars; simp_all; done))
