/-! the fewest lies -/
def foN (p : Nat → Bool) (all : Nat) : Nat → Nat
  | 0 => all
  | m + 1 => if pop m < pop (foN p all m) ∧ p m = true then m else foN p all m
theorem foN_le (p : Nat → Bool) (all : Nat) : ∀ m, m ≤ all + 1 → foN p all m ≤ all ∧ pop (foN p all m) ≤ pop all
  | 0, _ => ⟨Nat.le_refl _, Nat.le_refl _⟩
  | m + 1, h => by
    have h1 := foN_le p all m (by omega)
    show (if pop m < pop (foN p all m) ∧ p m = true then m else foN p all m) ≤ all ∧ pop (if pop m < pop (foN p all m) ∧ p m = true then m else foN p all m) ≤ pop all
    by_cases z : pop m < pop (foN p all m) ∧ p m = true
    · rw [if_pos z]; exact ⟨by omega, by omega⟩
    · rw [if_neg z]; exact h1
theorem foN_all (p : Nat → Bool) (all : Nat) : foN p all (all + 1) = foN p all all := by
  have h1 := foN_le p all all (by omega)
  show (if pop all < pop (foN p all all) ∧ p all = true then all else foN p all all) = _
  rw [if_neg (by omega)]
theorem foN_ok (p : Nat → Bool) (all : Nat) : ∀ m, foN p all m = all ∨ p (foN p all m) = true
  | 0 => Or.inl rfl
  | m + 1 => by
    show (if pop m < pop (foN p all m) ∧ p m = true then m else foN p all m) = all ∨ p (if pop m < pop (foN p all m) ∧ p m = true then m else foN p all m) = true
    by_cases z : pop m < pop (foN p all m) ∧ p m = true
    · rw [if_pos z]; exact Or.inr z.2
    · rw [if_neg z]; exact foN_ok p all m
theorem foN_yes {p : Nat → Bool} {all m : Nat} (h1 : pop m < pop (foN p all m)) (h2 : p m = true) : foN p all (m + 1) = m := by
  show (if pop m < pop (foN p all m) ∧ p m = true then m else foN p all m) = m
  rw [if_pos ⟨h1, h2⟩]
theorem foN_no {p : Nat → Bool} {all m : Nat} (h : ¬ (pop m < pop (foN p all m) ∧ p m = true)) : foN p all (m + 1) = foN p all m := by
  show (if pop m < pop (foN p all m) ∧ p m = true then m else foN p all m) = _
  rw [if_neg h]
theorem trN_all {s : Nat → Int} {u : Nat} {S : NS} {B : Nat} (h : ∀ k, k < S.n → B.testBit (S.so k) = true) : ∀ k, k ≤ S.n → trN s u S B k = true ∧ hoN s S B k = -1
  | 0, _ => ⟨rfl, rfl⟩
  | k + 1, hk => by
    obtain ⟨a, b⟩ := trN_all h k (by omega)
    have e := h k (by omega)
    refine ⟨?_, ?_⟩
    · show (trN s u S B k && (B.testBit (S.so k) || _)) = true
      rw [a, e]; rfl
    · show (if B.testBit (S.so k) then hoN s S B k else _) = -1
      rw [e, if_pos rfl]; exact b
theorem p2m (n : Nat) : 2 ^ n = 2 ^ n - 1 + 1 := by have := Nat.two_pow_pos n; omega
theorem le830 {n : Nat} (h : n ≤ 8) : n ≤ 30 := by omega
theorem le832 {n : Nat} (h : n ≤ 8) : n < 32 := by omega
/-- what the class holds of the book, as it is sorted -/
def SrW (w : Wd) (s : Nat → Int) (u N : Nat) (S : NS) : Prop := (∀ i, i < S.n → w 41 i = S.of (S.so i) ∧ w 42 i = S.so i) ∧ (∀ i, i < N → w 38 i = s (486 + 4 * i) ∧ w 39 i = s (487 + 4 * i) ∧ w 40 i = s (488 + 4 * i)) ∧ (w 11 (5 * u + 1) = s (31 + 5 * u) ∧ w 11 (5 * u + 2) = s (32 + 5 * u) ∧ w 11 (5 * u + 3) = s (33 + 5 * u))
theorem SrW.mk {w : Wd} {s : Nat → Int} {u N : Nat} {S : NS} (h41_ : ∀ i, i < S.n → w 41 i = S.of (S.so i) ∧ w 42 i = S.so i) (h38_ : ∀ i, i < N → w 38 i = s (486 + 4 * i) ∧ w 39 i = s (487 + 4 * i) ∧ w 40 i = s (488 + 4 * i)) (h11_ : w 11 (5 * u + 1) = s (31 + 5 * u) ∧ w 11 (5 * u + 2) = s (32 + 5 * u) ∧ w 11 (5 * u + 3) = s (33 + 5 * u)) : SrW w s u N S := And.intro h41_ (And.intro h38_ (h11_))
theorem SrW.h41 {w : Wd} {s : Nat → Int} {u N : Nat} {S : NS} (h_ : SrW w s u N S) : ∀ i, i < S.n → w 41 i = S.of (S.so i) ∧ w 42 i = S.so i := h_.1
theorem SrW.h38 {w : Wd} {s : Nat → Int} {u N : Nat} {S : NS} (h_ : SrW w s u N S) : ∀ i, i < N → w 38 i = s (486 + 4 * i) ∧ w 39 i = s (487 + 4 * i) ∧ w 40 i = s (488 + 4 * i) := h_.2.1
theorem SrW.h11 {w : Wd} {s : Nat → Int} {u N : Nat} {S : NS} (h_ : SrW w s u N S) : w 11 (5 * u + 1) = s (31 + 5 * u) ∧ w 11 (5 * u + 2) = s (32 + 5 * u) ∧ w 11 (5 * u + 3) = s (33 + 5 * u) := h_.2.2
theorem L_found {d : Nat} {n1 : Int} {Q : MV → Wd → Prop} {w : Wd} {s : Nat → Int} {u N : Nat} {S : NS} (b : BkW w s u N S) (sw : SrW w s u N S)
    (k : Q (mI (foN (fun B => trN s u S B S.n) (2 ^ S.n - 1) (2 ^ S.n - 1) : Nat)) w) :
    ∀ (m i : Nat), i + m = 2 ^ S.n - 1 → Wp (Cw (d + 3)) cd_Book_found (1, 0, n1) Q 14 [mR 36, mI u, mR 4, mI S.n, mI (2 ^ S.n - 1 : Nat), mI (foN (fun B => trN s u S B S.n) (2 ^ S.n - 1) i : Nat), mI i] [] w := by
  have p8 := pw8 b.n8
  intro m
  induction m with
  | zero =>
    intro i hi
    have : i = 2 ^ S.n - 1 := by omega
    apply Book_found_36_4_c14
    rw [← this] at k ⊢
    exact ⟨fun _ => k, fun z => absurd (Int.le_refl _) z⟩
  | succ m ih =>
    intro i hi
    have i1 := ih (i + 1) (by omega)
    have fl := foN_le (fun B => trN s u S B S.n) (2 ^ S.n - 1) i (by omega)
    have nb : ¬ ((2 ^ S.n - 1 : Nat) : Int) ≤ (i : Int) := by omega
    apply Book_found_36_4_c14
    refine ⟨fun z => absurd z nb, fun _ => ?_⟩
    refine S_bitCount (d := d + 2) i rfl (by omega) ?_
    refine ⟨_, rfl, ?_⟩
    refine S_bitCount (d := d + 2) (foN (fun B => trN s u S B S.n) (2 ^ S.n - 1) i) rfl (by omega) ?_
    refine ⟨_, rfl, ?_⟩
    rw [w_s64 (i := i) (by omega)]
    refine ⟨fun z => ?_, fun z => ?_⟩
    · rw [foN_no (fun q => by have := q.1; omega)] at i1
      exact i1
    · refine S_bookTrue (d := d) b i (by omega) sw.h41 sw.h38 sw.h11 ?_
      refine ⟨_, rfl, fun y => ?_, fun y => ?_⟩
      · rw [foN_no (fun q => by
          have q2 : trN s u S i S.n = true := q.2
          rw [q2] at y; exact absurd y (by decide))] at i1
        exact i1
      · have q2 : trN s u S i S.n = true := by
          cases q : trN s u S i S.n
          · rw [q] at y; exact absurd rfl y
          · rfl
        rw [foN_yes (p := fun B => trN s u S B S.n) (by omega) q2] at i1
        exact i1
def hmN (s : Nat → Int) (u : Nat) (S : NS) (B k : Nat) : Int := if hoN s S B k < 0 then s (31 + 5 * u) else hoN s S B k
theorem hmN_succ {s : Nat → Int} {u N : Nat} {S : NS} {B k : Nat} (hto : 0 ≤ s (487 + 4 * S.of (S.so k))) : hmN s u S B (k + 1) = if B.testBit (S.so k) then hmN s u S B k else s (487 + 4 * S.of (S.so k)) := by
  unfold hmN
  show (if (if B.testBit (S.so k) then hoN s S B k else s (487 + 4 * S.of (S.so k))) < 0 then s (31 + 5 * u) else (if B.testBit (S.so k) then hoN s S B k else s (487 + 4 * S.of (S.so k)))) = _
  by_cases z : B.testBit (S.so k) = true
  · rw [if_pos z, if_pos z]
  · rw [if_neg z, if_neg z, if_neg (by omega)]
theorem L_holder {d : Nat} {n1 : Int} {Q : MV → Wd → Prop} {w : Wd} {s : Nat → Int} {u N : Nat} {S : NS} (b : BkW w s u N S) (sw : SrW w s u N S) (B : Nat) (hB : B < 1024)
    (k : Q (mI (hmN s u S B S.n)) w) :
    ∀ (m i : Nat), i + m = S.n → Wp (Cw (d + 1)) cd_Book_holder (1, 0, n1) Q 11 [mR 36, none, mI B, none, mI S.n, mI (hmN s u S B i), mI i] [] w := by
  have n8 := b.n8
  have N40 := b.N40
  intro m
  induction m with
  | zero =>
    intro i hi
    have : i = S.n := by omega
    apply Book_holder_36_4_c11
    rw [← this] at k ⊢
    exact ⟨fun _ => k, fun z => absurd (Int.le_refl _) z⟩
  | succ m ih =>
    intro i hi
    obtain ⟨e41, e42⟩ := sw.h41 i (by omega)
    have so1 := b.so i (by omega)
    have of1 := b.of _ so1
    obtain ⟨e38, e39, e40⟩ := sw.h38 _ of1
    obtain ⟨t, t8, hto⟩ := b.to _ of1
    have i1 := ih (i + 1) (by omega)
    rw [hmN_succ (N := N) (by omega)] at i1
    have nb : ¬ (S.n : Int) ≤ (i : Int) := by omega
    have r8 : 0 ≤ (i : Int) ∧ (i : Int) < 8 := by omega
    have rN : 0 ≤ ((S.of (S.so i) : Nat) : Int) ∧ ((S.of (S.so i) : Nat) : Int) < 40 := by omega
    apply Book_holder_36_4_c11
    rw [Int.toNat_natCast, e41, e42, Int.toNat_natCast, e39, bit_nat (by omega) (by omega), ixs (k := i) (by omega)]
    refine ⟨fun z => absurd z nb, fun _ => ⟨r8, fun z => ?_, fun z => ?_⟩⟩
    · rw [if_neg (fun q => by rw [if_pos q] at z; exact absurd z (by decide))] at i1
      exact ⟨r8, rN, i1⟩
    · rw [if_pos (Classical.byContradiction (fun q => z (by rw [if_neg q])))] at i1
      exact i1
theorem L_lies {d : Nat} {n1 : Int} {Q : MV → Wd → Prop} {w : Wd} {s : Nat → Int} {u N : Nat} {S : NS} (b : BkW w s u N S) (es : w 146 = s) (h75 : w 144 75 = S.n) (h180 : ∀ r, r < S.n → w 180 r = 485 + 4 * S.of r) (h181 : ∀ i, i < S.n → w 181 i = S.so i) (t : Int)
    (k : ∀ x, Wp (Cw (d + 3)) cd_M_lies (1, 0, n1) Q 26 [mR 144, mI u, mI t, mI (foN (fun B => trN s u S B S.n) (2 ^ S.n - 1) (2 ^ S.n) : Nat), mI (2 ^ S.n : Nat)] [] (ub w 144 76 x)) :
    ∀ (m i : Nat) (x : Int), i + m = 2 ^ S.n → Wp (Cw (d + 3)) cd_M_lies (1, 0, n1) Q 26 [mR 144, mI u, mI t, mI (foN (fun B => trN s u S B S.n) (2 ^ S.n - 1) i : Nat), mI i] [] (ub w 144 76 x) := by
  have p8 := pw8 b.n8
  have n8 := b.n8
  intro m
  induction m with
  | zero =>
    intro i x hi
    have : i = 2 ^ S.n := by omega
    subst this
    exact k x
  | succ m ih =>
    intro i x hi
    have e75 : (ub w 144 76 x) 144 75 = S.n := h75
    have fl := foN_le (fun B => trN s u S B S.n) (2 ^ S.n - 1) i (by omega)
    have nb : ¬ ((2 ^ S.n : Nat) : Int) ≤ (i : Int) := by omega
    apply M_lies_144_c26
    rw [e75, ishl1 (by omega)]
    refine ⟨fun z => absurd z nb, fun _ => ?_⟩
    refine S_count1 (d := d + 2) i rfl (by omega) ?_
    refine ⟨_, rfl, ?_⟩
    refine S_count1 (d := d + 2) (foN (fun B => trN s u S B S.n) (2 ^ S.n - 1) i) rfl (by omega) ?_
    refine ⟨_, rfl, ?_⟩
    rw [w_s64 (i := i) (by omega)]
    refine ⟨fun z => ?_, fun z => ?_⟩
    · have i1 := ih (i + 1) x (by omega)
      rw [foN_no (fun q => by have := q.1; omega)] at i1
      exact i1
    · refine S_refTrue (d := d + 1) (w := ub w 144 76 x) (s := s) (N := N) (S := S) ⟨b.n8, b.N40, b.so, b.of, b.fr, b.to, b.mak, b.par, b.u16⟩ i (by omega) es h75 h180 h181 ?_
      intro x2 _
      rw [ub_ub]
      have i1 := ih (i + 1) x2 (by omega)
      refine ⟨_, rfl, fun y => ?_, fun y => ?_⟩
      · rw [foN_no (fun q => by
          have q2 : trN s u S i S.n = true := q.2
          rw [q2] at y; exact absurd y (by decide))] at i1
        exact i1
      · have q2 : trN s u S i S.n = true := by
          cases q : trN s u S i S.n
          · rw [q] at y; exact absurd rfl y
          · rfl
        rw [foN_yes (p := fun B => trN s u S B S.n) (by omega) q2] at i1
        exact i1
theorem P_lies {d : Nat} {w : Wd} (h : Inv w) (x t : Int) : Pair (d + 30) 159 271 [mI x, mI t] w := by
  unfold Pair
  have un := h.ws.un
  have pe := h.ws.pe
  have eU : w 4 8 = w 146 2 := h.rv.units
  have k0 : Inv (ub w 144 0 0) := (Inv.mk h.tape h.fault h.ws h.wp h.wb h.rv h.rp h.rb h.im0 h.im1 h.stale h.told h.wat h.hands h.hand h.askers h.asked h.gainers h.gained h.mid h.star h.done h.day h.shown h.words h.reserved)
  have nb := h.wb.notes
  obtain ⟨N, hN⟩ := Int.eq_ofNat_of_zero_le nb.1
  have N40 : N ≤ 40 := by omega
  have out : (x < 0 ∨ w 146 2 ≤ x ∨ t < 0 ∨ 2 < t) → Mid (d + 30) 271 [mI x, mI t] w (mI (-1)) w := by
    intro hx
    (apply Mid.k)
    apply M_lies_144_en
    intro n1
    rw [w32_id (x := w 146 2 - 1) (by unfold in32; omega)]
    refine ⟨fun _ => Post.k rfl k0 rfl rfl, fun _ => ⟨fun _ => Post.k rfl k0 rfl rfl, fun _ => ⟨fun _ => Post.k rfl k0 rfl rfl, fun _ => ⟨fun _ => Post.k rfl k0 rfl rfl, fun _ => ?_⟩⟩⟩⟩
    exfalso; omega
  apply X_lies_0_en
  rw [eU]
  refine ⟨fun z => out (Or.inl z), fun z1 => ⟨fun z => out (by omega), fun z2 => ⟨fun z => out (by omega), fun z3 => ⟨fun z4 => ?_, fun z => out (by omega)⟩⟩⟩⟩
  obtain ⟨u, hu⟩ := Int.eq_ofNat_of_zero_le (show 0 ≤ x by omega)
  subst hu
  have hu2 : (u : Int) < w 146 2 := by omega
  have u16 : u < 16 := by omega
  have h8 := h.wb.eight u
  rw [hN, Int.toNat_natCast] at h8
  have hb : w 36 0 = N := by rw [h.rb.notes, hN]
  obtain ⟨so1, of1⟩ := nst_ok (w 146) u N
  have eS := nst_n (w 146) u N
  have mk := h.ws.mak u hu2
  have pr := h.ws.par u hu2
  have bk : ∀ w2 : Wd, BkW w2 (w 146) u N (nst (w 146) u N) := fun w2 => by
    refine ⟨by omega, N40, so1, of1, fun i hi => ?_, fun i hi => ?_, ⟨(w 146 (31 + 5 * u)).toNat, by omega, by omega⟩, ?_, u16⟩
    · have := h.wb.from' i (by omega)
      exact ⟨(w 146 (486 + 4 * i)).toNat, by omega, by omega⟩
    · have := h.wb.to i (by omega)
      exact ⟨(w 146 (487 + 4 * i)).toNat, by omega, by omega⟩
    · rcases pr with q | q
      · exact Or.inl q
      · exact Or.inr ⟨(w 146 (32 + 5 * u)).toNat, by omega, by omega⟩
  have sr : ∀ w2 : Wd, Fr [41, 42] w w2 → (∀ i, i < (nst (w 146) u N).n → w2 41 i = (nst (w 146) u N).of ((nst (w 146) u N).so i) ∧ w2 42 i = (nst (w 146) u N).so i) → SrW w2 (w 146) u N (nst (w 146) u N) := fun w2 hF h41 => by
    refine ⟨h41, fun i hi => ?_, ?_⟩
    · rw [hF 38 (by decide), hF 39 (by decide), hF 40 (by decide), h.rb.from' i (by omega), h.rb.to i (by omega), h.rb.hour i (by omega)]
      exact ⟨rfl, rfl, rfl⟩
    · rw [hF 11 (by decide), h.rv.mak u hu2, h.rv.par u hu2, h.rv.uhour u hu2]
      exact ⟨rfl, rfl, rfl⟩
  have p8 := pw8 (bk w).n8
  have n8 := (bk w).n8
  have e1 : w32 (ishl 1 ((nst (w 146) u N).n : Int) - 1) = ((2 ^ (nst (w 146) u N).n - 1 : Nat) : Int) := by
    have p0 := Nat.two_pow_pos (nst (w 146) u N).n
    rw [ishl1 (by omega), w32_id (by unfold in32; omega)]; omega
  generalize hF : foN (fun B => trN (w 146) u (nst (w 146) u N) B (nst (w 146) u N).n) (2 ^ (nst (w 146) u N).n - 1) (2 ^ (nst (w 146) u N).n - 1) = F
  have fle : F < 1024 := by
    have := foN_le (fun B => trN (w 146) u (nst (w 146) u N) B (nst (w 146) u N).n) (2 ^ (nst (w 146) u N).n - 1) (2 ^ (nst (w 146) u N).n - 1) (by omega)
    rw [hF] at this
    omega
  have fok : trN (w 146) u (nst (w 146) u N) F (nst (w 146) u N).n = true := by
    rcases foN_ok (fun B => trN (w 146) u (nst (w 146) u N) B (nst (w 146) u N).n) (2 ^ (nst (w 146) u N).n - 1) (2 ^ (nst (w 146) u N).n - 1) with q | q
    · rw [hF] at q
      rw [q]
      refine (trN_all (fun k hk => ?_) _ (Nat.le_refl _)).1
      rw [Nat.testBit_two_pow_sub_one, decide_eq_true_eq]
      exact so1 k hk
    · rw [hF] at q; exact q
  -- the reference
  have ref : ∀ (w3 : Wd) (val : Int), Fr [41, 42] w w3 → (t = 0 → val = (pop F : Nat)) → (t = 1 → val = (F : Nat)) → (t = 2 → val = hmN (w 146) u (nst (w 146) u N) F (nst (w 146) u N).n) → Cw (d + 30) 271 [mR 144, mI u, mI t] w3 (Post w val) := by
    intro w3 val hF3 x0 x1 x2
    have i3 : Inv w3 := by
      have : w3 = ubf (ubf w 41 (w3 41)) 42 (w3 42) := by
        funext c i
        rw [ubf_ap, ubf_ap]
        by_cases q : c = 42
        · rw [if_pos q, q]
        · rw [if_neg q]
          by_cases q2 : c = 41
          · rw [if_pos q2, q2]
          · rw [if_neg q2, hF3 c (by simp [q, q2])]
      rw [this]
      exact (Inv.mk h.tape h.fault h.ws h.wp h.wb h.rv h.rp h.rb h.im0 h.im1 h.stale h.told h.wat h.hands h.hand h.askers h.asked h.gainers h.gained h.mid h.star h.done h.day h.shown h.words h.reserved)
    have e3 : w3 146 = w 146 := hF3 146 (by decide)
    apply M_lies_144_en
    intro n1
    rw [e3, w32_id (x := w 146 2 - 1) (by unfold in32; omega)]
    refine ⟨fun z => by exfalso; omega, fun _ => ⟨fun z => by exfalso; omega, fun _ => ⟨fun z => by exfalso; omega, fun _ => ⟨fun z => by exfalso; omega, fun _ => ?_⟩⟩⟩⟩
    refine S_notesOf (d := d + 28) (w := ub w3 144 0 0) u N N40 (by show w3 146 484 = N; rw [e3]; exact hN) (by show cntN (w3 146) u N ≤ 8; rw [e3]; exact h8) ?_
    intro f g hf hg
    have hf : ∀ r, r < (nst (w3 146) u N).n → f r = 485 + 4 * (nst (w3 146) u N).of r := hf
    have hg : ∀ i, i < (nst (w3 146) u N).n → g i = (nst (w3 146) u N).so i := hg
    show Wp (Cw (d + 29)) cd_M_lies (1, 0, n1) (Post w val) 26 [mR 144, mI u, mI t, mI (w32 (ishl 1 ((ub (ubf (ubf (ub w3 144 0 0) 180 f) 181 g) 144 75 (cntN (w3 146) u N : Nat)) 144 75) - 1)), mI 0] [] (ub (ubf (ubf (ub w3 144 0 0) 180 f) 181 g) 144 75 (cntN (w3 146) u N : Nat))
    rw [e3] at hf hg ⊢
    rw [← eS, show (ub (ubf (ubf (ub w3 144 0 0) 180 f) 181 g) 144 75 ((nst (w 146) u N).n : Nat)) 144 75 = ((nst (w 146) u N).n : Int) from by rw [ub_ap, if_pos rfl, if_pos rfl], e1]
    have h75 : (ub (ubf (ubf (ub w3 144 0 0) 180 f) 181 g) 144 75 ((nst (w 146) u N).n : Nat)) 144 75 = ((nst (w 146) u N).n : Int) := by rw [ub_ap, if_pos rfl, if_pos rfl]
    have e5 : (ub (ubf (ubf (ub w3 144 0 0) 180 f) 181 g) 144 75 ((nst (w 146) u N).n : Nat)) 146 = w 146 := e3
    have h180 : ∀ r, r < (nst (w 146) u N).n → (ub (ubf (ubf (ub w3 144 0 0) 180 f) 181 g) 144 75 ((nst (w 146) u N).n : Nat)) 180 r = 485 + 4 * (nst (w 146) u N).of r := hf
    have h181 : ∀ r, r < (nst (w 146) u N).n → (ub (ubf (ubf (ub w3 144 0 0) 180 f) 181 g) 144 75 ((nst (w 146) u N).n : Nat)) 181 r = (nst (w 146) u N).so r := hg
    have fin : ∀ z : Int, Inv (ub (ub (ubf (ubf (ub w3 144 0 0) 180 f) 181 g) 144 75 ((nst (w 146) u N).n : Nat)) 144 76 z) := fun z => (Inv.mk i3.tape i3.fault i3.ws i3.wp i3.wb i3.rv i3.rp i3.rb i3.im0 i3.im1 i3.stale i3.told i3.wat i3.hands i3.hand i3.askers i3.asked i3.gainers i3.gained i3.mid i3.star i3.done i3.day i3.shown i3.words i3.reserved)
    have q1 : ∀ z : Int, (ub (ub (ubf (ubf (ub w3 144 0 0) 180 f) 181 g) 144 75 ((nst (w 146) u N).n : Nat)) 144 76 z) 401 = w 401 := fun z => hF3 401 (by decide)
    have q0 : ∀ z : Int, (ub (ub (ubf (ubf (ub w3 144 0 0) 180 f) 181 g) 144 75 ((nst (w 146) u N).n : Nat)) 144 76 z) 400 = w 400 := fun z => hF3 400 (by decide)
    generalize ub (ubf (ubf (ub w3 144 0 0) 180 f) 181 g) 144 75 ((nst (w 146) u N).n : Nat) = w5 at *
    have e26 : ub w5 144 76 (w5 144 76) = w5 := by
      funext c i
      rw [ub_ap]
      by_cases q : c = 144
      · by_cases q2 : i = 76
        · rw [if_pos q, if_pos q2, q, q2]
        · rw [if_pos q, if_neg q2, q]
      · rw [if_neg q]
    have lp := L_lies (d := d + 26) (n1 := n1) (Q := Post w val) (w := w5) (s := w 146) (u := u) (N := N) (S := nst (w 146) u N) (bk w5) e5 h75 h180 h181 t ?_ (2 ^ (nst (w 146) u N).n) 0 (w5 144 76) (by omega)
    · rw [e26] at lp
      exact lp
    · intro z
      have eF : foN (fun B => trN (w 146) u (nst (w 146) u N) B (nst (w 146) u N).n) (2 ^ (nst (w 146) u N).n - 1) (2 ^ (nst (w 146) u N).n) = F := by
        have e := foN_all (fun B => trN (w 146) u (nst (w 146) u N) B (nst (w 146) u N).n) (2 ^ (nst (w 146) u N).n - 1)
        rw [← p2m, hF] at e
        exact e
      rw [eF]
      have e75 : (ub w5 144 76 z) 144 75 = ((nst (w 146) u N).n : Int) := h75
      apply M_lies_144_c26
      rw [e75, ishl1 (le830 n8)]
      refine ⟨fun _ => ⟨fun z2 => ?_, fun z2 => ⟨fun z3 => ?_, fun z3 => ?_⟩⟩, fun y => absurd (Int.le_refl _) y⟩
      · refine S_refTrue (d := d + 27) (w := ub w5 144 76 z) (s := w 146) (N := N) (S := nst (w 146) u N) (bk _) F fle e5 h75 h180 h181 ?_
        intro z5 hz5
        have hz5 := hz5 fok
        rw [ub_ub]
        have e76 : (ub w5 144 76 z5) 144 76 = z5 := by rw [ub_ap, if_pos rfl, if_pos rfl]
        have e146 : (ub w5 144 76 z5) 146 = w 146 := e5
        rw [e76, e146, ixu_2 (by omega), Int.toNat_natCast]
        have x3 := x2 (by omega)
        unfold hmN at x3
        refine ⟨_, rfl, fun y => ?_, fun y => ⟨by omega, ?_⟩⟩
        · rw [if_neg (by omega)] at x3
          exact Post.k (by rw [x3, hz5]) (fin z5) (q1 z5) (q0 z5)
        · rw [if_pos (by omega)] at x3
          exact Post.k (by rw [x3]) (fin z5) (q1 z5) (q0 z5)
      · exact Post.k (x1 (by omega)).symm (fin z) (q1 z) (q0 z)
      · refine S_count1 (d := d + 28) F rfl (by omega) ?_
        exact ⟨_, rfl, Post.k (x0 (by omega)).symm (fin z) (q1 z) (q0 z)⟩
  -- the class
  apply Book_found_36_4_en
  intro n1
  refine S_bookSort (d := d + 27) (w 146) u N N40 h8 hb (fun i hi => h.rb.unit i (by omega)) (fun i hi => h.rb.hour i (by omega)) ?_
  intro f g hfg
  refine ⟨_, rfl, ?_⟩
  rw [e1]
  refine L_found (d := d + 25) (w := ubf (ubf w 41 f) 42 g) (bk _) (sr _ (Fr.ubf (Fr.ubf (Fr.rfl' _ _) (by decide)) (by decide)) hfg) ?_ (2 ^ (nst (w 146) u N).n - 1) 0 (by omega)
  rw [hF]
  refine ⟨_, rfl, fun za => ⟨fun zb => ?_, fun zb => ?_⟩, fun za => ?_⟩
  · apply Book_holder_36_4_en
    intro n2
    refine S_bookSort (d := d + 27) (w := ubf (ubf w 41 f) 42 g) (w 146) u N N40 h8 hb (fun i hi => h.rb.unit i (by omega)) (fun i hi => h.rb.hour i (by omega)) ?_
    intro f2 g2 hfg2
    have hF2 : Fr [41, 42] w (ubf (ubf (ubf (ubf w 41 f) 42 g) 41 f2) 42 g2) := Fr.ubf (Fr.ubf (Fr.ubf (Fr.ubf (Fr.rfl' _ _) (by decide)) (by decide)) (by decide)) (by decide)
    have sw := sr _ hF2 hfg2
    have e11 : (ubf (ubf (ubf (ubf w 41 f) 42 g) 41 f2) 42 g2) 11 (5 * u + 1) = w 146 (31 + 5 * u) := sw.h11.1
    refine ⟨_, rfl, ?_⟩
    rw [ix5_1 (by omega), Int.toNat_natCast, e11]
    refine ⟨by omega, ?_⟩
    refine L_holder (d := d + 27) (w := ubf (ubf (ubf (ubf w 41 f) 42 g) 41 f2) 42 g2) (bk _) sw F fle ?_ (nst (w 146) u N).n 0 (by omega)
    refine ⟨_, rfl, ?_⟩
    (apply Mid.k)
    exact ref _ _ hF2 (fun y => absurd y za) (fun y => absurd y zb) (fun _ => rfl)
  · (apply Mid.k)
    exact ref _ _ (Fr.ubf (Fr.ubf (Fr.rfl' _ _) (by decide)) (by decide)) (fun y => absurd y za) (fun _ => rfl) (fun y => by exfalso; omega)
  · refine S_bitCount (d := d + 28) F rfl (by omega) ?_
    refine ⟨_, rfl, ?_⟩
    (apply Mid.k)
    exact ref _ _ (Fr.ubf (Fr.ubf (Fr.rfl' _ _) (by decide)) (by decide)) (fun _ => rfl) (fun y => by exfalso; omega) (fun y => by exfalso; omega)
