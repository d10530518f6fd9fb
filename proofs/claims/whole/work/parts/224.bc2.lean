def kchk (m : Nat) : Bool := Nat.rec (motive := fun _ => Bool) true (fun k ih => (Nat.beq (bcn ((k + 1) &&& k) + 1) (bcn (k + 1))) && ih) m
theorem kchk_all : kchk 1024 = true := by decide +kernel
theorem kchk_at : ∀ m k : Nat, kchk m = true → k < m → bcn ((k + 1) &&& k) + 1 = bcn (k + 1)
  | 0, k, _, h => by omega
  | m + 1, k, hc, h => by
    have hc : ((Nat.beq (bcn ((m + 1) &&& m) + 1) (bcn (m + 1))) && kchk m) = true := hc
    rw [Bool.and_eq_true] at hc
    by_cases q : k = m
    · subst q; exact Nat.eq_of_beq_eq_true hc.1
    · exact kchk_at m k hc.2 (by omega)
theorem pop_step {v : Nat} (h0 : 0 < v) (h : v ≤ 1024) : pop (v &&& (v - 1)) + 1 = pop v := by
  have e := kchk_at 1024 (v - 1) kchk_all (by omega)
  rw [show v - 1 + 1 = v by omega] at e
  have := Nat.and_le_left (n := v) (m := v - 1)
  rw [← pop_eq (by omega), ← pop_eq (by omega)]; exact e
theorem pop_le10 {v : Nat} (h : v ≤ 1024) : pop v ≤ 11 := by
  have : ∀ (f n : Nat), n < 2 ^ f → pop.go 32 n ≤ f := by
    intro f n hn
    have gg : ∀ (g f n : Nat), n < 2 ^ f → pop.go g n ≤ f := by
      intro g
      induction g with
      | zero => intro f n _; exact Nat.zero_le _
      | succ g ih =>
        intro f n hn
        unfold pop.go
        cases f with
        | zero => have : n = 0 := by omega
                  subst this
                  have := ih 0 0 (by omega)
                  simpa using this
        | succ f =>
          have := ih f (n / 2) (by rw [Nat.pow_succ] at hn; omega)
          omega
    exact gg 32 f n hn
  exact this 11 v (by omega)
theorem S_count1 {d : Nat} {Q : MV → Wd → Prop} {w : Wd} {x : Int} (n : Nat) (hx : x = n) (hn : n ≤ 1024) (k : Q (mI (pop n)) w) : Cw (d + 1) 225 [mI x] w Q := by
  subst hx
  apply M_count1_en
  intro n1
  have lp : ∀ (r v c : Nat), v ≤ r → v ≤ 1024 → c + pop v = pop n → c ≤ 2000 → Wp (Cw (d + 0)) cd_M_count1 (1, 0, n1) Q 4 [none, mI c, mI v] [] w := by
    intro r
    induction r with
    | zero =>
      intro v c h1 h2 h3 h4
      have : v = 0 := by omega
      subst this
      apply M_count1_c4
      (repeat' (apply spl <;> intro))
      · have e : pop 0 = 0 := rfl
        rw [e] at h3; rw [show (c : Int) = (pop n : Int) by omega]; exact k
      · exfalso; omega
    | succ r ih =>
      intro v c h1 h2 h3 h4
      by_cases q : v = 0
      · subst q; exact ih 0 c (by omega) h2 h3 h4
      · apply M_count1_c4
        (repeat' (apply spl <;> intro))
        · exfalso; omega
        · have e := pop_step (v := v) (by omega) h2
          have l := Nat.and_le_right (n := v) (m := v - 1)
          have b := pop_le10 hn
          rw [w32_id (x := (v : Int) - 1) (by unfold in32; omega), show (v : Int) - 1 = ((v - 1 : Nat) : Int) by omega, iand_nat (by omega) (by omega), w32_id (by unfold in32; omega)]
          exact ih (v &&& (v - 1)) (c + 1) (by omega) (by omega) (by omega) (by omega)
  exact lp n n 0 (by omega) hn (by omega) (by omega)
