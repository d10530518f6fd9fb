theorem L_sortI {d : Nat} {n1 : Int} {Q : MV → Wd → Prop} (s : Nat → Int) (u : Int) (k : Nat) (S : NS) (hn : S.n < 8) (hk : k < 40) (so1 : ∀ a, a < S.n → S.so a < S.n) (of1 : ∀ r, r < S.n → S.of r < k) :
    ∀ (a : Nat) (w : Wd), a ≤ S.n → (∀ i, i ≤ k → w 40 i = s (488 + 4 * i)) → (∀ i, i < a → w 41 i = S.of (S.so i) ∧ w 42 i = S.so i) → (∀ i, a < i → i ≤ S.n → w 41 i = S.of (S.so (i - 1)) ∧ w 42 i = S.so (i - 1)) → fpos s S.so S.of (s (488 + 4 * k)) S.n = fpos s S.so S.of (s (488 + 4 * k)) a →
      (∀ f g : Nat → Int, (∀ i, i < S.n + 1 → f i = (nins S (fpos s S.so S.of (s (488 + 4 * k)) S.n) k).of ((nins S (fpos s S.so S.of (s (488 + 4 * k)) S.n) k).so i) ∧ g i = (nins S (fpos s S.so S.of (s (488 + 4 * k)) S.n) k).so i) → Wp (Cw (d + 0)) cd_Book_sort (1, 0, n1) Q 4 [mR 36, mI u, mI (S.n + 1), mI (k + 1), none] [] (ubf (ubf w 41 f) 42 g)) →
      Wp (Cw (d + 0)) cd_Book_sort (1, 0, n1) Q 19 [mR 36, mI u, mI S.n, mI k, mI a] [] w := by
  have ofk : ∀ r, r < S.n → (nins S (fpos s S.so S.of (s (488 + 4 * k)) S.n) k).of r = S.of r := fun r hr => by
    show (if r = S.n then k else S.of r) = _
    rw [if_neg (by omega)]
  have ofn : (nins S (fpos s S.so S.of (s (488 + 4 * k)) S.n) k).of S.n = k := by
    show (if S.n = S.n then k else S.of S.n) = k
    rw [if_pos rfl]
  have fin : ∀ (p : Nat) (w : Wd), p ≤ S.n → (∀ i, i < p → w 41 i = S.of (S.so i) ∧ w 42 i = S.so i) → (∀ i, p < i → i ≤ S.n → w 41 i = S.of (S.so (i - 1)) ∧ w 42 i = S.so (i - 1)) → fpos s S.so S.of (s (488 + 4 * k)) S.n = p → ∀ i, i < S.n + 1 → up1 (w 41) p k i = (nins S (fpos s S.so S.of (s (488 + 4 * k)) S.n) k).of ((nins S (fpos s S.so S.of (s (488 + 4 * k)) S.n) k).so i) ∧ up1 (w 42) p S.n i = (nins S (fpos s S.so S.of (s (488 + 4 * k)) S.n) k).so i := by
    intro p w hp hlo hhi hf i hi
    have e : (nins S (fpos s S.so S.of (s (488 + 4 * k)) S.n) k).so i = if i < p then S.so i else if i = p then S.n else S.so (i - 1) := by rw [hf]; rfl
    rw [e, up1_ap, up1_ap]
    by_cases q : i = p
    · rw [if_pos q, if_pos q, if_neg (by omega), if_pos q, ofn]; exact ⟨rfl, rfl⟩
    · simp only [if_neg q]
      by_cases q2 : i < p
      · rw [if_pos q2, ofk _ (so1 i (by omega))]; exact hlo i q2
      · rw [if_neg q2, ofk _ (so1 (i - 1) (by omega))]; exact hhi i (by omega) (by omega)
  intro a
  induction a with
  | zero =>
    intro w ha h40 hlo hhi hf c
    apply Book_sort_36_c19
    (repeat' (apply spl <;> intro))
    · (refine And.intro (by omega) ?_); (refine And.intro (by omega) ?_)
      rw [w32_id (x := (k : Int) + 1) (by unfold in32; omega), w32_id (x := (S.n : Int) + 1) (by unfold in32; omega)]
      exact c (up1 (w 41) 0 k) (up1 (w 42) 0 S.n) (fin 0 w (by omega) hlo hhi (by rw [hf]; rfl))
    · exfalso; omega
  | succ a ih =>
    intro w ha h40 hlo hhi hf c
    have e1 := hlo a (by omega)
    have b1 := so1 a (by omega)
    have b2 := of1 (S.so a) b1
    have i0 : (((a + 1 : Nat) : Int) - 1).toNat = a := by omega
    have i1 : ((S.of (S.so a) : Nat) : Int).toNat = S.of (S.so a) := Int.toNat_natCast _
    apply Book_sort_36_c19
    rw [w32_id (x := ((a + 1 : Nat) : Int) - 1) (by unfold in32; omega), i0, e1.1, e1.2, i1, Int.toNat_natCast k, h40 _ (by omega), h40 k (by omega)]
    (repeat' (apply spl <;> intro))
    · exfalso; omega
    · (refine And.intro (by omega) ?_); (refine And.intro (by omega) ?_); (refine And.intro (by omega) ?_)
      (repeat' (apply spl <;> intro))
      · rename_i q
        (refine And.intro (by omega) ?_); (refine And.intro (by omega) ?_)
        rw [w32_id (x := (k : Int) + 1) (by unfold in32; omega), w32_id (x := (S.n : Int) + 1) (by unfold in32; omega)]
        exact c (up1 (w 41) (a + 1) k) (up1 (w 42) (a + 1) S.n) (fin (a + 1) w (by omega) hlo hhi (by rw [hf]; unfold fpos; rw [if_pos q]))
      · rename_i q
        (refine And.intro (by omega) ?_); (refine And.intro (by omega) ?_); (refine And.intro (by omega) ?_); (refine And.intro (by omega) ?_)
        rw [w32_id (x := ((a + 1 : Nat) : Int) + (-1)) (by unfold in32; omega), show ((a + 1 : Nat) : Int) + (-1) = (a : Int) by omega]
        refine ih _ (by omega) h40 ?_ ?_ ?_ ?_
        · intro i hi
          show up1 (w 41) (a + 1) _ i = _ ∧ up1 (w 42) (a + 1) _ i = _
          rw [up1_ap, up1_ap, if_neg (by omega), if_neg (by omega)]; exact hlo i (by omega)
        · intro i hi hi2
          show up1 (w 41) (a + 1) _ i = _ ∧ up1 (w 42) (a + 1) _ i = _
          rw [up1_ap, up1_ap]
          by_cases q1 : i = a + 1
          · rw [if_pos q1, if_pos q1, q1]; exact ⟨rfl, rfl⟩
          · rw [if_neg q1, if_neg q1]; exact hhi i (by omega) hi2
        · rw [hf]
          conv => lhs; unfold fpos
          rw [if_neg q]
        · intro f g hg
          refine Eq.mp ?_ (c f g hg)
          congr 1
          (funext c i; simp (decide := true) only [ub_ap, ubf_ap, up1_ap, ↓reduceIte]; (repeat' split) <;> first | rfl | omega | (simp_all; done) | (subst_vars; simp_all; done))
