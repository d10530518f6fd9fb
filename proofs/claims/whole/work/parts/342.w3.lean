/-! the law's cases (by gen/mkw3.py) -/
def LwK (d : Nat) (n1 : Int) (Q : MV → Wd → Prop) (w : Wd) (i : Int) : Prop := ∀ w2, Inv w2 → (w2 401 = w 401 ∨ w2 401 = up1 (w 401) 1 (w 401 1 + 1)) → w2 400 = w 400 → Wp (Cw (d + 30)) cd_law (2, 2, n1) Q 850 [mR 400, mR 0, mR 144, mR 185, mI i, none, none] [] w2
theorem alen_kw {w w1 : Wd} (k : KW w w1) : alen w1 400 = alen w 400 := by
  unfold alen
  rw [if_pos rfl, if_pos rfl, k.2]
theorem Cw_279 {d : Nat} {a : List MV} {w : Wd} {Q : MV → Wd → Prop} (h : extUnit a w Q) : Cw (d + 1) 279 a w Q := by
  unfold Cw
  rw [if_neg (by decide), if_pos rfl]; exact h
theorem Cw_280 {d : Nat} {a : List MV} {w : Wd} {Q : MV → Wd → Prop} (h : extWant a w Q) : Cw (d + 1) 280 a w Q := by
  unfold Cw
  rw [if_neg (by decide), if_neg (by decide), if_pos rfl]; exact h
theorem Cw_281 {d : Nat} {a : List MV} {w : Wd} {Q : MV → Wd → Prop} (h : extAct a w Q) : Cw (d + 1) 281 a w Q := by
  unfold Cw
  rw [if_neg (by decide), if_neg (by decide), if_neg (by decide), if_pos rfl]; exact h
theorem Cw_282 {d : Nat} {a : List MV} {w : Wd} {Q : MV → Wd → Prop} (h : extGain a w Q) : Cw (d + 1) 282 a w Q := by
  unfold Cw
  rw [if_neg (by decide), if_neg (by decide), if_neg (by decide), if_neg (by decide), if_pos rfl]; exact h
theorem cmp3_self (v : Int) : cmp3 v v = 0 := cmp3_zero.mpr rfl
set_option maxRecDepth 8192 in
theorem lw_0 {d : Nat} {n1 : Int} {Q : MV → Wd → Prop} {w : Wd} {i : Int} (h : Inv w) (h0 : w 401 0 = 186) (b1 : 0 ≤ w32 (i + 1) ∧ w32 (i + 1) < alen w 400) (b2 : 0 ≤ w32 (i + 2) ∧ w32 (i + 2) < alen w 400) (b3 : 0 ≤ w32 (i + 3) ∧ w32 (i + 3) < alen w 400) (b4 : 0 ≤ w32 (i + 4) ∧ w32 (i + 4) < alen w 400) (b5 : 0 ≤ w32 (i + 5) ∧ w32 (i + 5) < alen w 400)  (k : LwK d n1 Q w i) : Wp (Cw (d + 30)) cd_law (2, 2, n1) Q 25 [mR 400, mR 0, mR 144, mR 185, mI i, none, none] [] w := by
  have P : Cw (d + 30) 12 (mR 0 :: [mI (w 400 (w32 (i + 1)).toNat), mI (w 400 (w32 (i + 2)).toNat), mI (w 400 (w32 (i + 3)).toNat), mI (w 400 (w32 (i + 4)).toNat), mI (w 400 (w32 (i + 5)).toNat)]) w (Mid (d + 30) 169 [mI (w 400 (w32 (i + 1)).toNat), mI (w 400 (w32 (i + 2)).toNat), mI (w 400 (w32 (i + 3)).toNat), mI (w 400 (w32 (i + 4)).toNat), mI (w 400 (w32 (i + 5)).toNat)] w) := P_feed (d := d + 27) h (w 400 (w32 (i + 1)).toNat) (w 400 (w32 (i + 2)).toNat) (w 400 (w32 (i + 3)).toNat) (w 400 (w32 (i + 4)).toNat) (w 400 (w32 (i + 5)).toNat)
  have P := Cw_keep _ _ _ _ _ (by decide) (by decide) P
  refine Wp.s (Wp.s (Wp.s (Wp.s (Wp.s (Wp.s ⟨b1, Wp.s (Wp.s (Wp.s (Wp.s (Wp.s ⟨b2, Wp.s (Wp.s (Wp.s (Wp.s (Wp.s ⟨b3, Wp.s (Wp.s (Wp.s (Wp.s (Wp.s ⟨b4, Wp.s (Wp.s (Wp.s (Wp.s (Wp.s ⟨b5, Wp.s ⟨h0, Cw_mono _ _ _ _ _ _ ?_ P⟩⟩))))⟩))))⟩))))⟩))))⟩)))))
  intro r w1 q
  obtain ⟨⟨v, rfl, hm⟩, kw⟩ := q
  have al := alen_kw kw
  have c1 : 0 ≤ w32 (i + 1) ∧ w32 (i + 1) < alen w1 400 := by rw [al]; exact b1
  have c2 : 0 ≤ w32 (i + 2) ∧ w32 (i + 2) < alen w1 400 := by rw [al]; exact b2
  have c3 : 0 ≤ w32 (i + 3) ∧ w32 (i + 3) < alen w1 400 := by rw [al]; exact b3
  have c4 : 0 ≤ w32 (i + 4) ∧ w32 (i + 4) < alen w1 400 := by rw [al]; exact b4
  have c5 : 0 ≤ w32 (i + 5) ∧ w32 (i + 5) < alen w1 400 := by rw [al]; exact b5
  rw [← kw.1] at hm
  refine Wp.s (Wp.s (Wp.s (Wp.s (Wp.s (Wp.s ⟨c1, Wp.s (Wp.s (Wp.s (Wp.s (Wp.s ⟨c2, Wp.s (Wp.s (Wp.s (Wp.s (Wp.s ⟨c3, Wp.s (Wp.s (Wp.s (Wp.s (Wp.s ⟨c4, Wp.s (Wp.s (Wp.s (Wp.s (Wp.s ⟨c5, Wp.s ⟨by rw [kw.2]; exact h0, Cw_mono _ _ _ _ _ _ ?_ hm⟩⟩))))⟩))))⟩))))⟩))))⟩)))))
  intro r w2 q
  obtain ⟨rfl, hi, e1, e2⟩ := q
  exact Wp.s ⟨fun _ => k w2 hi (Or.inl e1) e2, fun z => absurd rfl z⟩
set_option maxRecDepth 8192 in
theorem lw_1 {d : Nat} {n1 : Int} {Q : MV → Wd → Prop} {w : Wd} {i : Int} (h : Inv w) (h0 : w 401 0 = 186) (b1 : 0 ≤ w32 (i + 1) ∧ w32 (i + 1) < alen w 400)  (k : LwK d n1 Q w i) : Wp (Cw (d + 30)) cd_law (2, 2, n1) Q 82 [mR 400, mR 0, mR 144, mR 185, mI i, none, none] [] w := by
  have P : Cw (d + 30) 14 (mR 0 :: [mI (w 400 (w32 (i + 1)).toNat)]) w (Mid (d + 30) 171 [mI (w 400 (w32 (i + 1)).toNat)] w) := P_end (d := d + 27) h (w 400 (w32 (i + 1)).toNat)
  have P := Cw_keep _ _ _ _ _ (by decide) (by decide) P
  refine Wp.s (Wp.s (Wp.s (Wp.s (Wp.s (Wp.s ⟨b1, Wp.s ⟨h0, Cw_mono _ _ _ _ _ _ ?_ P⟩⟩)))))
  intro r w1 q
  obtain ⟨⟨v, rfl, hm⟩, kw⟩ := q
  have al := alen_kw kw
  have c1 : 0 ≤ w32 (i + 1) ∧ w32 (i + 1) < alen w1 400 := by rw [al]; exact b1
  rw [← kw.1] at hm
  refine Wp.s (Wp.s (Wp.s (Wp.s (Wp.s (Wp.s ⟨c1, Wp.s ⟨by rw [kw.2]; exact h0, Cw_mono _ _ _ _ _ _ ?_ hm⟩⟩)))))
  intro r w2 q
  obtain ⟨rfl, hi, e1, e2⟩ := q
  exact Wp.s ⟨fun _ => k w2 hi (Or.inl e1) e2, fun z => absurd rfl z⟩
set_option maxRecDepth 8192 in
theorem lw_2 {d : Nat} {n1 : Int} {Q : MV → Wd → Prop} {w : Wd} {i : Int} (h : Inv w) (h0 : w 401 0 = 186)   (k : LwK d n1 Q w i) : Wp (Cw (d + 30)) cd_law (2, 2, n1) Q 99 [mR 400, mR 0, mR 144, mR 185, mI i, none, none] [] w := by
  have P : Cw (d + 30) 15 (mR 0 :: []) w (Mid (d + 30) 173 [] w) := P_village (d := d + 0) h 
  have P := Cw_keep _ _ _ _ _ (by decide) (by decide) P
  refine Wp.s (Wp.s ⟨h0, Cw_mono _ _ _ _ _ _ ?_ P⟩)
  intro r w1 q
  obtain ⟨⟨v, rfl, hm⟩, kw⟩ := q
  refine Wp.s (Wp.s ⟨by rw [kw.2]; exact h0, Cw_mono _ _ _ _ _ _ ?_ hm⟩)
  intro r w2 q
  obtain ⟨rfl, hi, e1, e2⟩ := q
  exact Wp.s ⟨fun _ => k w2 hi (Or.inl e1) e2, fun z => absurd rfl z⟩
set_option maxRecDepth 8192 in
theorem lw_3 {d : Nat} {n1 : Int} {Q : MV → Wd → Prop} {w : Wd} {i : Int} (h : Inv w) (h0 : w 401 0 = 186)   (k : LwK d n1 Q w i) : Wp (Cw (d + 30)) cd_law (2, 2, n1) Q 106 [mR 400, mR 0, mR 144, mR 185, mI i, none, none] [] w := by
  have P : Cw (d + 30) 49 (mR 0 :: []) w (Mid (d + 30) 197 [] w) := P_fault (d := d + 27) h 
  have P := Cw_keep _ _ _ _ _ (by decide) (by decide) P
  refine Wp.s (Wp.s ⟨h0, Cw_mono _ _ _ _ _ _ ?_ P⟩)
  intro r w1 q
  obtain ⟨⟨v, rfl, hm⟩, kw⟩ := q
  refine Wp.s (Wp.s ⟨by rw [kw.2]; exact h0, Cw_mono _ _ _ _ _ _ ?_ hm⟩)
  intro r w2 q
  obtain ⟨rfl, hi, e1, e2⟩ := q
  exact Wp.s ⟨fun _ => k w2 hi (Or.inl e1) e2, fun z => absurd rfl z⟩
set_option maxRecDepth 8192 in
theorem lw_4 {d : Nat} {n1 : Int} {Q : MV → Wd → Prop} {w : Wd} {i : Int} (h : Inv w) (h0 : w 401 0 = 186) (b1 : 0 ≤ w32 (i + 1) ∧ w32 (i + 1) < alen w 400) (b2 : 0 ≤ w32 (i + 2) ∧ w32 (i + 2) < alen w 400) (h512 : w 401 1 < 512) (k : LwK d n1 Q w i) : Wp (Cw (d + 30)) cd_law (2, 2, n1) Q 113 [mR 400, mR 0, mR 144, mR 185, mI i, none, none] [] w := by
  refine Wp.s (Wp.s (Wp.s (Wp.s (Wp.s (Wp.s ⟨b1, Wp.s (Wp.s (Wp.s (Wp.s (Wp.s ⟨b2, Wp.s (Wp.s ⟨h0, Cw_279 (d := d + 29) ⟨(w 400 (w32 (i + 1)).toNat), (w 400 (w32 (i + 2)).toNat), rfl, by rw [h.rv.units]; exact h.ws.un, h512, fun ok => ?_, fun nok => ?_⟩⟩)⟩))))⟩)))))
  · have hi : Inv (ub (ub w 185 0 (w 11 ((w 400 (w32 (i + 1)).toNat) * 5 + (w 400 (w32 (i + 2)).toNat)).toNat)) 401 1 (w 401 1 + 1)) := (Inv.mk h.tape h.fault h.ws h.wp h.wb h.rv h.rp h.rb h.im0 h.im1 h.stale h.told h.wat h.hands h.hand h.askers h.asked h.gainers h.gained h.mid h.star h.done h.day h.shown h.words h.reserved)
    refine Wp.s (Wp.s (Wp.s (Wp.s (Wp.s (Wp.s (Wp.s ⟨b1, Wp.s (Wp.s (Wp.s (Wp.s (Wp.s ⟨b2, Wp.s ⟨h0, S_munit (d := d + 27) hi (w 400 (w32 (i + 1)).toNat) (w 400 (w32 (i + 2)).toNat) (fun ok2 => ?_) (fun nok2 => ?_)⟩⟩))))⟩))))))
    rotate_left
    · exact absurd ok nok2
    have hj : Inv (ub (ub (ub w 185 0 (w 11 ((w 400 (w32 (i + 1)).toNat) * 5 + (w 400 (w32 (i + 2)).toNat)).toNat)) 401 1 (w 401 1 + 1)) 144 0 0) := (Inv.mk h.tape h.fault h.ws h.wp h.wb h.rv h.rp h.rb h.im0 h.im1 h.stale h.told h.wat h.hands h.hand h.askers h.asked h.gainers h.gained h.mid h.star h.done h.day h.shown h.words h.reserved)
    refine Wp.s (Wp.s (Wp.s ⟨h0, M_thrown_144_en (d := d + 29) ?_⟩))
    refine Wp.s (Wp.s ⟨fun _ => ?_, fun z => absurd rfl z⟩)
    refine Wp.s (Wp.s ⟨fun z => absurd rfl z, fun _ => ?_⟩)
    refine Wp.s (Wp.s (Wp.s ⟨⟨by decide, by show (0 : Int) < szI 185; decide⟩, Wp.s (Wp.s (Wp.s (Wp.s ⟨fun _ => ?_, fun z => absurd (cmp3_self _) z⟩)))⟩))
    refine Wp.s (Wp.fgd (leA.k (leA.k (leA.k (leA.k (leA.k (leA.f (leA.f leA.e))))))) ?_)
    exact k _ hj (Or.inr rfl) rfl
  · have hi : Inv (ub w 401 1 (w 401 1 + 1)) := (Inv.mk h.tape h.fault h.ws h.wp h.wb h.rv h.rp h.rb h.im0 h.im1 h.stale h.told h.wat h.hands h.hand h.askers h.asked h.gainers h.gained h.mid h.star h.done h.day h.shown h.words h.reserved)
    refine Wp.s (Wp.s (Wp.s (Wp.s (Wp.s (Wp.s (Wp.s ⟨b1, Wp.s (Wp.s (Wp.s (Wp.s (Wp.s ⟨b2, Wp.s ⟨h0, S_munit (d := d + 27) hi (w 400 (w32 (i + 1)).toNat) (w 400 (w32 (i + 2)).toNat) (fun ok2 => ?_) (fun nok2 => ?_)⟩⟩))))⟩))))))
    · exact absurd ok2 nok
    have hj : Inv (ub (ub w 401 1 (w 401 1 + 1)) 144 0 1) := (Inv.mk h.tape h.fault h.ws h.wp h.wb h.rv h.rp h.rb h.im0 h.im1 h.stale h.told h.wat h.hands h.hand h.askers h.asked h.gainers h.gained h.mid h.star h.done h.day h.shown h.words h.reserved)
    refine Wp.s (Wp.s (Wp.s ⟨h0, M_thrown_144_en (d := d + 29) ?_⟩))
    refine Wp.s (Wp.s ⟨fun _ => ?_, fun z => absurd rfl z⟩)
    refine Wp.s (Wp.s ⟨fun _ => ?_, fun z => absurd (by decide : ¬ (1 : Int) = 0) z⟩)
    refine Wp.s (Wp.fgd (leA.k (leA.k (leA.k (leA.k (leA.k (leA.f (leA.f leA.e))))))) ?_)
    exact k _ hj (Or.inr rfl) rfl
set_option maxRecDepth 8192 in
theorem lw_5 {d : Nat} {n1 : Int} {Q : MV → Wd → Prop} {w : Wd} {i : Int} (h : Inv w) (h0 : w 401 0 = 186) (b1 : 0 ≤ w32 (i + 1) ∧ w32 (i + 1) < alen w 400) (b2 : 0 ≤ w32 (i + 2) ∧ w32 (i + 2) < alen w 400) (h512 : w 401 1 < 512) (k : LwK d n1 Q w i) : Wp (Cw (d + 30)) cd_law (2, 2, n1) Q 158 [mR 400, mR 0, mR 144, mR 185, mI i, none, none] [] w := by
  refine Wp.s (Wp.s (Wp.s (Wp.s (Wp.s (Wp.s ⟨b1, Wp.s (Wp.s (Wp.s (Wp.s (Wp.s ⟨b2, Wp.s (Wp.s ⟨h0, Cw_280 (d := d + 29) ⟨(w 400 (w32 (i + 1)).toNat), (w 400 (w32 (i + 2)).toNat), rfl, by rw [h.rv.wants]; exact h.ws.wa, h512, fun ok => ?_, fun nok => ?_⟩⟩)⟩))))⟩)))))
  · have hi : Inv (ub (ub w 185 0 (w 13 ((w 400 (w32 (i + 1)).toNat) * 4 + (w 400 (w32 (i + 2)).toNat)).toNat)) 401 1 (w 401 1 + 1)) := (Inv.mk h.tape h.fault h.ws h.wp h.wb h.rv h.rp h.rb h.im0 h.im1 h.stale h.told h.wat h.hands h.hand h.askers h.asked h.gainers h.gained h.mid h.star h.done h.day h.shown h.words h.reserved)
    refine Wp.s (Wp.s (Wp.s (Wp.s (Wp.s (Wp.s (Wp.s ⟨b1, Wp.s (Wp.s (Wp.s (Wp.s (Wp.s ⟨b2, Wp.s ⟨h0, S_mwant (d := d + 27) hi (w 400 (w32 (i + 1)).toNat) (w 400 (w32 (i + 2)).toNat) (fun ok2 => ?_) (fun nok2 => ?_)⟩⟩))))⟩))))))
    rotate_left
    · exact absurd ok nok2
    have hj : Inv (ub (ub (ub w 185 0 (w 13 ((w 400 (w32 (i + 1)).toNat) * 4 + (w 400 (w32 (i + 2)).toNat)).toNat)) 401 1 (w 401 1 + 1)) 144 0 0) := (Inv.mk h.tape h.fault h.ws h.wp h.wb h.rv h.rp h.rb h.im0 h.im1 h.stale h.told h.wat h.hands h.hand h.askers h.asked h.gainers h.gained h.mid h.star h.done h.day h.shown h.words h.reserved)
    refine Wp.s (Wp.s (Wp.s ⟨h0, M_thrown_144_en (d := d + 29) ?_⟩))
    refine Wp.s (Wp.s ⟨fun _ => ?_, fun z => absurd rfl z⟩)
    refine Wp.s (Wp.s ⟨fun z => absurd rfl z, fun _ => ?_⟩)
    refine Wp.s (Wp.s (Wp.s ⟨⟨by decide, by show (0 : Int) < szI 185; decide⟩, Wp.s (Wp.s (Wp.s (Wp.s ⟨fun _ => ?_, fun z => absurd (cmp3_self _) z⟩)))⟩))
    refine Wp.s (Wp.fgd (leA.k (leA.k (leA.k (leA.k (leA.k (leA.f (leA.f leA.e))))))) ?_)
    exact k _ hj (Or.inr rfl) rfl
  · have hi : Inv (ub w 401 1 (w 401 1 + 1)) := (Inv.mk h.tape h.fault h.ws h.wp h.wb h.rv h.rp h.rb h.im0 h.im1 h.stale h.told h.wat h.hands h.hand h.askers h.asked h.gainers h.gained h.mid h.star h.done h.day h.shown h.words h.reserved)
    refine Wp.s (Wp.s (Wp.s (Wp.s (Wp.s (Wp.s (Wp.s ⟨b1, Wp.s (Wp.s (Wp.s (Wp.s (Wp.s ⟨b2, Wp.s ⟨h0, S_mwant (d := d + 27) hi (w 400 (w32 (i + 1)).toNat) (w 400 (w32 (i + 2)).toNat) (fun ok2 => ?_) (fun nok2 => ?_)⟩⟩))))⟩))))))
    · exact absurd ok2 nok
    have hj : Inv (ub (ub w 401 1 (w 401 1 + 1)) 144 0 1) := (Inv.mk h.tape h.fault h.ws h.wp h.wb h.rv h.rp h.rb h.im0 h.im1 h.stale h.told h.wat h.hands h.hand h.askers h.asked h.gainers h.gained h.mid h.star h.done h.day h.shown h.words h.reserved)
    refine Wp.s (Wp.s (Wp.s ⟨h0, M_thrown_144_en (d := d + 29) ?_⟩))
    refine Wp.s (Wp.s ⟨fun _ => ?_, fun z => absurd rfl z⟩)
    refine Wp.s (Wp.s ⟨fun _ => ?_, fun z => absurd (by decide : ¬ (1 : Int) = 0) z⟩)
    refine Wp.s (Wp.fgd (leA.k (leA.k (leA.k (leA.k (leA.k (leA.f (leA.f leA.e))))))) ?_)
    exact k _ hj (Or.inr rfl) rfl
set_option maxRecDepth 8192 in
theorem lw_6 {d : Nat} {n1 : Int} {Q : MV → Wd → Prop} {w : Wd} {i : Int} (h : Inv w) (h0 : w 401 0 = 186) (b1 : 0 ≤ w32 (i + 1) ∧ w32 (i + 1) < alen w 400) (b2 : 0 ≤ w32 (i + 2) ∧ w32 (i + 2) < alen w 400) (b3 : 0 ≤ w32 (i + 3) ∧ w32 (i + 3) < alen w 400)  (k : LwK d n1 Q w i) : Wp (Cw (d + 30)) cd_law (2, 2, n1) Q 203 [mR 400, mR 0, mR 144, mR 185, mI i, none, none] [] w := by
  have P : Cw (d + 30) 50 (mR 0 :: [mI (w 400 (w32 (i + 1)).toNat), mI (w 400 (w32 (i + 2)).toNat), mI (w 400 (w32 (i + 3)).toNat)]) w (Mid (d + 30) 205 [mI (w 400 (w32 (i + 1)).toNat), mI (w 400 (w32 (i + 2)).toNat), mI (w 400 (w32 (i + 3)).toNat)] w) := P_giving (d := d + 27) h (w 400 (w32 (i + 1)).toNat) (w 400 (w32 (i + 2)).toNat) (w 400 (w32 (i + 3)).toNat)
  have P := Cw_keep _ _ _ _ _ (by decide) (by decide) P
  refine Wp.s (Wp.s (Wp.s (Wp.s (Wp.s (Wp.s ⟨b1, Wp.s (Wp.s (Wp.s (Wp.s (Wp.s ⟨b2, Wp.s (Wp.s (Wp.s (Wp.s (Wp.s ⟨b3, Wp.s ⟨h0, Cw_mono _ _ _ _ _ _ ?_ P⟩⟩))))⟩))))⟩)))))
  intro r w1 q
  obtain ⟨⟨v, rfl, hm⟩, kw⟩ := q
  have al := alen_kw kw
  have c1 : 0 ≤ w32 (i + 1) ∧ w32 (i + 1) < alen w1 400 := by rw [al]; exact b1
  have c2 : 0 ≤ w32 (i + 2) ∧ w32 (i + 2) < alen w1 400 := by rw [al]; exact b2
  have c3 : 0 ≤ w32 (i + 3) ∧ w32 (i + 3) < alen w1 400 := by rw [al]; exact b3
  rw [← kw.1] at hm
  refine Wp.s (Wp.s (Wp.s (Wp.s (Wp.s (Wp.s ⟨c1, Wp.s (Wp.s (Wp.s (Wp.s (Wp.s ⟨c2, Wp.s (Wp.s (Wp.s (Wp.s (Wp.s ⟨c3, Wp.s ⟨by rw [kw.2]; exact h0, Cw_mono _ _ _ _ _ _ ?_ hm⟩⟩))))⟩))))⟩)))))
  intro r w2 q
  obtain ⟨rfl, hi, e1, e2⟩ := q
  exact Wp.s ⟨fun _ => k w2 hi (Or.inl e1) e2, fun z => absurd rfl z⟩
set_option maxRecDepth 8192 in
theorem lw_7 {d : Nat} {n1 : Int} {Q : MV → Wd → Prop} {w : Wd} {i : Int} (h : Inv w) (h0 : w 401 0 = 186) (b1 : 0 ≤ w32 (i + 1) ∧ w32 (i + 1) < alen w 400) (b2 : 0 ≤ w32 (i + 2) ∧ w32 (i + 2) < alen w 400) (b3 : 0 ≤ w32 (i + 3) ∧ w32 (i + 3) < alen w 400)  (k : LwK d n1 Q w i) : Wp (Cw (d + 30)) cd_law (2, 2, n1) Q 240 [mR 400, mR 0, mR 144, mR 185, mI i, none, none] [] w := by
  have P : Cw (d + 30) 52 (mR 0 :: [mI (w 400 (w32 (i + 1)).toNat), mI (w 400 (w32 (i + 2)).toNat), mI (w 400 (w32 (i + 3)).toNat)]) w (Mid (d + 30) 207 [mI (w 400 (w32 (i + 1)).toNat), mI (w 400 (w32 (i + 2)).toNat), mI (w 400 (w32 (i + 3)).toNat)] w) := P_way (d := d + 0) h (w 400 (w32 (i + 1)).toNat) (w 400 (w32 (i + 2)).toNat) (w 400 (w32 (i + 3)).toNat)
  have P := Cw_keep _ _ _ _ _ (by decide) (by decide) P
  refine Wp.s (Wp.s (Wp.s (Wp.s (Wp.s (Wp.s ⟨b1, Wp.s (Wp.s (Wp.s (Wp.s (Wp.s ⟨b2, Wp.s (Wp.s (Wp.s (Wp.s (Wp.s ⟨b3, Wp.s ⟨h0, Cw_mono _ _ _ _ _ _ ?_ P⟩⟩))))⟩))))⟩)))))
  intro r w1 q
  obtain ⟨⟨v, rfl, hm⟩, kw⟩ := q
  have al := alen_kw kw
  have c1 : 0 ≤ w32 (i + 1) ∧ w32 (i + 1) < alen w1 400 := by rw [al]; exact b1
  have c2 : 0 ≤ w32 (i + 2) ∧ w32 (i + 2) < alen w1 400 := by rw [al]; exact b2
  have c3 : 0 ≤ w32 (i + 3) ∧ w32 (i + 3) < alen w1 400 := by rw [al]; exact b3
  rw [← kw.1] at hm
  refine Wp.s (Wp.s (Wp.s (Wp.s (Wp.s (Wp.s ⟨c1, Wp.s (Wp.s (Wp.s (Wp.s (Wp.s ⟨c2, Wp.s (Wp.s (Wp.s (Wp.s (Wp.s ⟨c3, Wp.s ⟨by rw [kw.2]; exact h0, Cw_mono _ _ _ _ _ _ ?_ hm⟩⟩))))⟩))))⟩)))))
  intro r w2 q
  obtain ⟨rfl, hi, e1, e2⟩ := q
  exact Wp.s ⟨fun _ => k w2 hi (Or.inl e1) e2, fun z => absurd rfl z⟩
set_option maxRecDepth 8192 in
theorem lw_8 {d : Nat} {n1 : Int} {Q : MV → Wd → Prop} {w : Wd} {i : Int} (h : Inv w) (h0 : w 401 0 = 186) (b1 : 0 ≤ w32 (i + 1) ∧ w32 (i + 1) < alen w 400)  (k : LwK d n1 Q w i) : Wp (Cw (d + 30)) cd_law (2, 2, n1) Q 277 [mR 400, mR 0, mR 144, mR 185, mI i, none, none] [] w := by
  have P : Cw (d + 30) 85 (mR 0 :: [mI (w 400 (w32 (i + 1)).toNat)]) w (Mid (d + 30) 221 [mI (w 400 (w32 (i + 1)).toNat)] w) := P_hand (d := d + 27) h (w 400 (w32 (i + 1)).toNat)
  have P := Cw_keep _ _ _ _ _ (by decide) (by decide) P
  refine Wp.s (Wp.s (Wp.s (Wp.s (Wp.s (Wp.s ⟨b1, Wp.s ⟨h0, Cw_mono _ _ _ _ _ _ ?_ P⟩⟩)))))
  intro r w1 q
  obtain ⟨⟨v, rfl, hm⟩, kw⟩ := q
  have al := alen_kw kw
  have c1 : 0 ≤ w32 (i + 1) ∧ w32 (i + 1) < alen w1 400 := by rw [al]; exact b1
  rw [← kw.1] at hm
  refine Wp.s (Wp.s (Wp.s (Wp.s (Wp.s (Wp.s ⟨c1, Wp.s ⟨by rw [kw.2]; exact h0, Cw_mono _ _ _ _ _ _ ?_ hm⟩⟩)))))
  intro r w2 q
  obtain ⟨rfl, hi, e1, e2⟩ := q
  exact Wp.s ⟨fun _ => k w2 hi (Or.inl e1) e2, fun z => absurd rfl z⟩
set_option maxRecDepth 8192 in
theorem lw_9 {d : Nat} {n1 : Int} {Q : MV → Wd → Prop} {w : Wd} {i : Int} (h : Inv w) (h0 : w 401 0 = 186)   (k : LwK d n1 Q w i) : Wp (Cw (d + 30)) cd_law (2, 2, n1) Q 294 [mR 400, mR 0, mR 144, mR 185, mI i, none, none] [] w := by
  have P : Cw (d + 30) 86 (mR 0 :: []) w (Mid (d + 30) 222 [] w) := P_most (d := d + 0) h 
  have P := Cw_keep _ _ _ _ _ (by decide) (by decide) P
  refine Wp.s (Wp.s ⟨h0, Cw_mono _ _ _ _ _ _ ?_ P⟩)
  intro r w1 q
  obtain ⟨⟨v, rfl, hm⟩, kw⟩ := q
  refine Wp.s (Wp.s ⟨by rw [kw.2]; exact h0, Cw_mono _ _ _ _ _ _ ?_ hm⟩)
  intro r w2 q
  obtain ⟨rfl, hi, e1, e2⟩ := q
  exact Wp.s ⟨fun _ => k w2 hi (Or.inl e1) e2, fun z => absurd rfl z⟩
set_option maxRecDepth 8192 in
theorem lw_10 {d : Nat} {n1 : Int} {Q : MV → Wd → Prop} {w : Wd} {i : Int} (h : Inv w) (h0 : w 401 0 = 186)   (k : LwK d n1 Q w i) : Wp (Cw (d + 30)) cd_law (2, 2, n1) Q 301 [mR 400, mR 0, mR 144, mR 185, mI i, none, none] [] w := by
  have P : Cw (d + 30) 89 (mR 0 :: []) w (Mid (d + 30) 226 [] w) := P_bars (d := d + 0) h 
  have P := Cw_keep _ _ _ _ _ (by decide) (by decide) P
  refine Wp.s (Wp.s ⟨h0, Cw_mono _ _ _ _ _ _ ?_ P⟩)
  intro r w1 q
  obtain ⟨⟨v, rfl, hm⟩, kw⟩ := q
  refine Wp.s (Wp.s ⟨by rw [kw.2]; exact h0, Cw_mono _ _ _ _ _ _ ?_ hm⟩)
  intro r w2 q
  obtain ⟨rfl, hi, e1, e2⟩ := q
  exact Wp.s ⟨fun _ => k w2 hi (Or.inl e1) e2, fun z => absurd rfl z⟩
set_option maxRecDepth 8192 in
theorem lw_11 {d : Nat} {n1 : Int} {Q : MV → Wd → Prop} {w : Wd} {i : Int} (h : Inv w) (h0 : w 401 0 = 186) (b1 : 0 ≤ w32 (i + 1) ∧ w32 (i + 1) < alen w 400)  (k : LwK d n1 Q w i) : Wp (Cw (d + 30)) cd_law (2, 2, n1) Q 308 [mR 400, mR 0, mR 144, mR 185, mI i, none, none] [] w := by
  have P : Cw (d + 30) 91 (mR 0 :: [mI (w 400 (w32 (i + 1)).toNat)]) w (Mid (d + 30) 227 [mI (w 400 (w32 (i + 1)).toNat)] w) := P_best (d := d + 0) h (w 400 (w32 (i + 1)).toNat)
  have P := Cw_keep _ _ _ _ _ (by decide) (by decide) P
  refine Wp.s (Wp.s (Wp.s (Wp.s (Wp.s (Wp.s ⟨b1, Wp.s ⟨h0, Cw_mono _ _ _ _ _ _ ?_ P⟩⟩)))))
  intro r w1 q
  obtain ⟨⟨v, rfl, hm⟩, kw⟩ := q
  have al := alen_kw kw
  have c1 : 0 ≤ w32 (i + 1) ∧ w32 (i + 1) < alen w1 400 := by rw [al]; exact b1
  rw [← kw.1] at hm
  refine Wp.s (Wp.s (Wp.s (Wp.s (Wp.s (Wp.s ⟨c1, Wp.s ⟨by rw [kw.2]; exact h0, Cw_mono _ _ _ _ _ _ ?_ hm⟩⟩)))))
  intro r w2 q
  obtain ⟨rfl, hi, e1, e2⟩ := q
  exact Wp.s ⟨fun _ => k w2 hi (Or.inl e1) e2, fun z => absurd rfl z⟩
set_option maxRecDepth 8192 in
theorem lw_12 {d : Nat} {n1 : Int} {Q : MV → Wd → Prop} {w : Wd} {i : Int} (h : Inv w) (h0 : w 401 0 = 186) (b1 : 0 ≤ w32 (i + 1) ∧ w32 (i + 1) < alen w 400)  (k : LwK d n1 Q w i) : Wp (Cw (d + 30)) cd_law (2, 2, n1) Q 325 [mR 400, mR 0, mR 144, mR 185, mI i, none, none] [] w := by
  have P : Cw (d + 30) 96 (mR 0 :: [mI (w 400 (w32 (i + 1)).toNat)]) w (Mid (d + 30) 230 [mI (w 400 (w32 (i + 1)).toNat)] w) := P_bestOf (d := d + 0) h (w 400 (w32 (i + 1)).toNat)
  have P := Cw_keep _ _ _ _ _ (by decide) (by decide) P
  refine Wp.s (Wp.s (Wp.s (Wp.s (Wp.s (Wp.s ⟨b1, Wp.s ⟨h0, Cw_mono _ _ _ _ _ _ ?_ P⟩⟩)))))
  intro r w1 q
  obtain ⟨⟨v, rfl, hm⟩, kw⟩ := q
  have al := alen_kw kw
  have c1 : 0 ≤ w32 (i + 1) ∧ w32 (i + 1) < alen w1 400 := by rw [al]; exact b1
  rw [← kw.1] at hm
  refine Wp.s (Wp.s (Wp.s (Wp.s (Wp.s (Wp.s ⟨c1, Wp.s ⟨by rw [kw.2]; exact h0, Cw_mono _ _ _ _ _ _ ?_ hm⟩⟩)))))
  intro r w2 q
  obtain ⟨rfl, hi, e1, e2⟩ := q
  exact Wp.s ⟨fun _ => k w2 hi (Or.inl e1) e2, fun z => absurd rfl z⟩
set_option maxRecDepth 8192 in
theorem lw_13 {d : Nat} {n1 : Int} {Q : MV → Wd → Prop} {w : Wd} {i : Int} (h : Inv w) (h0 : w 401 0 = 186)   (k : LwK d n1 Q w i) : Wp (Cw (d + 30)) cd_law (2, 2, n1) Q 342 [mR 400, mR 0, mR 144, mR 185, mI i, none, none] [] w := by
  have P : Cw (d + 30) 97 (mR 0 :: []) w (Mid (d + 30) 231 [] w) := P_plan (d := d + 0) h 
  have P := Cw_keep _ _ _ _ _ (by decide) (by decide) P
  refine Wp.s (Wp.s ⟨h0, Cw_mono _ _ _ _ _ _ ?_ P⟩)
  intro r w1 q
  obtain ⟨⟨v, rfl, hm⟩, kw⟩ := q
  refine Wp.s (Wp.s ⟨by rw [kw.2]; exact h0, Cw_mono _ _ _ _ _ _ ?_ hm⟩)
  intro r w2 q
  obtain ⟨rfl, hi, e1, e2⟩ := q
  exact Wp.s ⟨fun _ => k w2 hi (Or.inl e1) e2, fun z => absurd rfl z⟩
set_option maxRecDepth 8192 in
theorem lw_14 {d : Nat} {n1 : Int} {Q : MV → Wd → Prop} {w : Wd} {i : Int} (h : Inv w) (h0 : w 401 0 = 186) (b1 : 0 ≤ w32 (i + 1) ∧ w32 (i + 1) < alen w 400) (b2 : 0 ≤ w32 (i + 2) ∧ w32 (i + 2) < alen w 400)  (k : LwK d n1 Q w i) : Wp (Cw (d + 30)) cd_law (2, 2, n1) Q 349 [mR 400, mR 0, mR 144, mR 185, mI i, none, none] [] w := by
  have P : Cw (d + 30) 102 (mR 0 :: [mI (w 400 (w32 (i + 1)).toNat), mI (w 400 (w32 (i + 2)).toNat)]) w (Mid (d + 30) 234 [mI (w 400 (w32 (i + 1)).toNat), mI (w 400 (w32 (i + 2)).toNat)] w) := P_drawn (d := d + 0) h (w 400 (w32 (i + 1)).toNat) (w 400 (w32 (i + 2)).toNat)
  have P := Cw_keep _ _ _ _ _ (by decide) (by decide) P
  refine Wp.s (Wp.s (Wp.s (Wp.s (Wp.s (Wp.s ⟨b1, Wp.s (Wp.s (Wp.s (Wp.s (Wp.s ⟨b2, Wp.s ⟨h0, Cw_mono _ _ _ _ _ _ ?_ P⟩⟩))))⟩)))))
  intro r w1 q
  obtain ⟨⟨v, rfl, hm⟩, kw⟩ := q
  have al := alen_kw kw
  have c1 : 0 ≤ w32 (i + 1) ∧ w32 (i + 1) < alen w1 400 := by rw [al]; exact b1
  have c2 : 0 ≤ w32 (i + 2) ∧ w32 (i + 2) < alen w1 400 := by rw [al]; exact b2
  rw [← kw.1] at hm
  refine Wp.s (Wp.s (Wp.s (Wp.s (Wp.s (Wp.s ⟨c1, Wp.s (Wp.s (Wp.s (Wp.s (Wp.s ⟨c2, Wp.s ⟨by rw [kw.2]; exact h0, Cw_mono _ _ _ _ _ _ ?_ hm⟩⟩))))⟩)))))
  intro r w2 q
  obtain ⟨rfl, hi, e1, e2⟩ := q
  exact Wp.s ⟨fun _ => k w2 hi (Or.inl e1) e2, fun z => absurd rfl z⟩
set_option maxRecDepth 8192 in
theorem lw_15 {d : Nat} {n1 : Int} {Q : MV → Wd → Prop} {w : Wd} {i : Int} (h : Inv w) (h0 : w 401 0 = 186) (b1 : 0 ≤ w32 (i + 1) ∧ w32 (i + 1) < alen w 400) (b2 : 0 ≤ w32 (i + 2) ∧ w32 (i + 2) < alen w 400) (h512 : w 401 1 < 512) (k : LwK d n1 Q w i) : Wp (Cw (d + 30)) cd_law (2, 2, n1) Q 376 [mR 400, mR 0, mR 144, mR 185, mI i, none, none] [] w := by
  refine Wp.s (Wp.s (Wp.s (Wp.s (Wp.s (Wp.s ⟨b1, Wp.s (Wp.s (Wp.s (Wp.s (Wp.s ⟨b2, Wp.s (Wp.s ⟨h0, Cw_281 (d := d + 29) ⟨(w 400 (w32 (i + 1)).toNat), (w 400 (w32 (i + 2)).toNat), rfl, by rw [h.rp.acts]; exact h.wp.acts, h512, fun ok => ?_, fun nok => ?_⟩⟩)⟩))))⟩)))))
  · have hi : Inv (ub (ub w 185 0 (if (w 400 (w32 (i + 2)).toNat) = 0 then w 29 (w 400 (w32 (i + 1)).toNat).toNat else if (w 400 (w32 (i + 2)).toNat) = 1 then w 30 (w 400 (w32 (i + 1)).toNat).toNat else w 31 (w 400 (w32 (i + 1)).toNat).toNat)) 401 1 (w 401 1 + 1)) := (Inv.mk h.tape h.fault h.ws h.wp h.wb h.rv h.rp h.rb h.im0 h.im1 h.stale h.told h.wat h.hands h.hand h.askers h.asked h.gainers h.gained h.mid h.star h.done h.day h.shown h.words h.reserved)
    refine Wp.s (Wp.s (Wp.s (Wp.s (Wp.s (Wp.s (Wp.s ⟨b1, Wp.s (Wp.s (Wp.s (Wp.s (Wp.s ⟨b2, Wp.s ⟨h0, S_mact (d := d + 27) hi (w 400 (w32 (i + 1)).toNat) (w 400 (w32 (i + 2)).toNat) (fun ok2 => ?_) (fun nok2 => ?_)⟩⟩))))⟩))))))
    rotate_left
    · exact absurd ok nok2
    have hj : Inv (ub (ub (ub w 185 0 (if (w 400 (w32 (i + 2)).toNat) = 0 then w 29 (w 400 (w32 (i + 1)).toNat).toNat else if (w 400 (w32 (i + 2)).toNat) = 1 then w 30 (w 400 (w32 (i + 1)).toNat).toNat else w 31 (w 400 (w32 (i + 1)).toNat).toNat)) 401 1 (w 401 1 + 1)) 144 0 0) := (Inv.mk h.tape h.fault h.ws h.wp h.wb h.rv h.rp h.rb h.im0 h.im1 h.stale h.told h.wat h.hands h.hand h.askers h.asked h.gainers h.gained h.mid h.star h.done h.day h.shown h.words h.reserved)
    refine Wp.s (Wp.s (Wp.s ⟨h0, M_thrown_144_en (d := d + 29) ?_⟩))
    refine Wp.s (Wp.s ⟨fun _ => ?_, fun z => absurd rfl z⟩)
    refine Wp.s (Wp.s ⟨fun z => absurd rfl z, fun _ => ?_⟩)
    refine Wp.s (Wp.s (Wp.s ⟨⟨by decide, by show (0 : Int) < szI 185; decide⟩, Wp.s (Wp.s (Wp.s (Wp.s ⟨fun _ => ?_, fun z => absurd (cmp3_self _) z⟩)))⟩))
    refine Wp.s (Wp.fgd (leA.k (leA.k (leA.k (leA.k (leA.k (leA.f (leA.f leA.e))))))) ?_)
    exact k _ hj (Or.inr rfl) rfl
  · have hi : Inv (ub w 401 1 (w 401 1 + 1)) := (Inv.mk h.tape h.fault h.ws h.wp h.wb h.rv h.rp h.rb h.im0 h.im1 h.stale h.told h.wat h.hands h.hand h.askers h.asked h.gainers h.gained h.mid h.star h.done h.day h.shown h.words h.reserved)
    refine Wp.s (Wp.s (Wp.s (Wp.s (Wp.s (Wp.s (Wp.s ⟨b1, Wp.s (Wp.s (Wp.s (Wp.s (Wp.s ⟨b2, Wp.s ⟨h0, S_mact (d := d + 27) hi (w 400 (w32 (i + 1)).toNat) (w 400 (w32 (i + 2)).toNat) (fun ok2 => ?_) (fun nok2 => ?_)⟩⟩))))⟩))))))
    · exact absurd ok2 nok
    have hj : Inv (ub (ub w 401 1 (w 401 1 + 1)) 144 0 1) := (Inv.mk h.tape h.fault h.ws h.wp h.wb h.rv h.rp h.rb h.im0 h.im1 h.stale h.told h.wat h.hands h.hand h.askers h.asked h.gainers h.gained h.mid h.star h.done h.day h.shown h.words h.reserved)
    refine Wp.s (Wp.s (Wp.s ⟨h0, M_thrown_144_en (d := d + 29) ?_⟩))
    refine Wp.s (Wp.s ⟨fun _ => ?_, fun z => absurd rfl z⟩)
    refine Wp.s (Wp.s ⟨fun _ => ?_, fun z => absurd (by decide : ¬ (1 : Int) = 0) z⟩)
    refine Wp.s (Wp.fgd (leA.k (leA.k (leA.k (leA.k (leA.k (leA.f (leA.f leA.e))))))) ?_)
    exact k _ hj (Or.inr rfl) rfl
set_option maxRecDepth 8192 in
theorem lw_16 {d : Nat} {n1 : Int} {Q : MV → Wd → Prop} {w : Wd} {i : Int} (h : Inv w) (h0 : w 401 0 = 186)   (k : LwK d n1 Q w i) : Wp (Cw (d + 30)) cd_law (2, 2, n1) Q 421 [mR 400, mR 0, mR 144, mR 185, mI i, none, none] [] w := by
  have P : Cw (d + 30) 105 (mR 0 :: []) w (Mid (d + 30) 237 [] w) := P_judge (d := d + 0) h 
  have P := Cw_keep _ _ _ _ _ (by decide) (by decide) P
  refine Wp.s (Wp.s ⟨h0, Cw_mono _ _ _ _ _ _ ?_ P⟩)
  intro r w1 q
  obtain ⟨⟨v, rfl, hm⟩, kw⟩ := q
  refine Wp.s (Wp.s ⟨by rw [kw.2]; exact h0, Cw_mono _ _ _ _ _ _ ?_ hm⟩)
  intro r w2 q
  obtain ⟨rfl, hi, e1, e2⟩ := q
  exact Wp.s ⟨fun _ => k w2 hi (Or.inl e1) e2, fun z => absurd rfl z⟩
set_option maxRecDepth 8192 in
theorem lw_17 {d : Nat} {n1 : Int} {Q : MV → Wd → Prop} {w : Wd} {i : Int} (h : Inv w) (h0 : w 401 0 = 186) (b1 : 0 ≤ w32 (i + 1) ∧ w32 (i + 1) < alen w 400)  (k : LwK d n1 Q w i) : Wp (Cw (d + 30)) cd_law (2, 2, n1) Q 428 [mR 400, mR 0, mR 144, mR 185, mI i, none, none] [] w := by
  have P : Cw (d + 30) 114 (mR 0 :: [mI (w 400 (w32 (i + 1)).toNat)]) w (Mid (d + 30) 245 [mI (w 400 (w32 (i + 1)).toNat)] w) := P_judged (d := d + 27) h (w 400 (w32 (i + 1)).toNat)
  have P := Cw_keep _ _ _ _ _ (by decide) (by decide) P
  refine Wp.s (Wp.s (Wp.s (Wp.s (Wp.s (Wp.s ⟨b1, Wp.s ⟨h0, Cw_mono _ _ _ _ _ _ ?_ P⟩⟩)))))
  intro r w1 q
  obtain ⟨⟨v, rfl, hm⟩, kw⟩ := q
  have al := alen_kw kw
  have c1 : 0 ≤ w32 (i + 1) ∧ w32 (i + 1) < alen w1 400 := by rw [al]; exact b1
  rw [← kw.1] at hm
  refine Wp.s (Wp.s (Wp.s (Wp.s (Wp.s (Wp.s ⟨c1, Wp.s ⟨by rw [kw.2]; exact h0, Cw_mono _ _ _ _ _ _ ?_ hm⟩⟩)))))
  intro r w2 q
  obtain ⟨rfl, hi, e1, e2⟩ := q
  exact Wp.s ⟨fun _ => k w2 hi (Or.inl e1) e2, fun z => absurd rfl z⟩
set_option maxRecDepth 8192 in
theorem lw_18 {d : Nat} {n1 : Int} {Q : MV → Wd → Prop} {w : Wd} {i : Int} (h : Inv w) (h0 : w 401 0 = 186) (b1 : 0 ≤ w32 (i + 1) ∧ w32 (i + 1) < alen w 400) (b2 : 0 ≤ w32 (i + 2) ∧ w32 (i + 2) < alen w 400)  (k : LwK d n1 Q w i) : Wp (Cw (d + 30)) cd_law (2, 2, n1) Q 445 [mR 400, mR 0, mR 144, mR 185, mI i, none, none] [] w := by
  have P : Cw (d + 30) 115 (mR 0 :: [mI (w 400 (w32 (i + 1)).toNat), mI (w 400 (w32 (i + 2)).toNat)]) w (Mid (d + 30) 246 [mI (w 400 (w32 (i + 1)).toNat), mI (w 400 (w32 (i + 2)).toNat)] w) := P_holds (d := d + 27) h (w 400 (w32 (i + 1)).toNat) (w 400 (w32 (i + 2)).toNat)
  have P := Cw_keep _ _ _ _ _ (by decide) (by decide) P
  refine Wp.s (Wp.s (Wp.s (Wp.s (Wp.s (Wp.s ⟨b1, Wp.s (Wp.s (Wp.s (Wp.s (Wp.s ⟨b2, Wp.s ⟨h0, Cw_mono _ _ _ _ _ _ ?_ P⟩⟩))))⟩)))))
  intro r w1 q
  obtain ⟨⟨v, rfl, hm⟩, kw⟩ := q
  have al := alen_kw kw
  have c1 : 0 ≤ w32 (i + 1) ∧ w32 (i + 1) < alen w1 400 := by rw [al]; exact b1
  have c2 : 0 ≤ w32 (i + 2) ∧ w32 (i + 2) < alen w1 400 := by rw [al]; exact b2
  rw [← kw.1] at hm
  refine Wp.s (Wp.s (Wp.s (Wp.s (Wp.s (Wp.s ⟨c1, Wp.s (Wp.s (Wp.s (Wp.s (Wp.s ⟨c2, Wp.s ⟨by rw [kw.2]; exact h0, Cw_mono _ _ _ _ _ _ ?_ hm⟩⟩))))⟩)))))
  intro r w2 q
  obtain ⟨rfl, hi, e1, e2⟩ := q
  exact Wp.s ⟨fun _ => k w2 hi (Or.inl e1) e2, fun z => absurd rfl z⟩
set_option maxRecDepth 8192 in
theorem lw_19 {d : Nat} {n1 : Int} {Q : MV → Wd → Prop} {w : Wd} {i : Int} (h : Inv w) (h0 : w 401 0 = 186) (b1 : 0 ≤ w32 (i + 1) ∧ w32 (i + 1) < alen w 400) (b2 : 0 ≤ w32 (i + 2) ∧ w32 (i + 2) < alen w 400) (b3 : 0 ≤ w32 (i + 3) ∧ w32 (i + 3) < alen w 400)  (k : LwK d n1 Q w i) : Wp (Cw (d + 30)) cd_law (2, 2, n1) Q 472 [mR 400, mR 0, mR 144, mR 185, mI i, none, none] [] w := by
  have P : Cw (d + 30) 116 (mR 0 :: [mI (w 400 (w32 (i + 1)).toNat), mI (w 400 (w32 (i + 2)).toNat), mI (w 400 (w32 (i + 3)).toNat)]) w (Mid (d + 30) 247 [mI (w 400 (w32 (i + 1)).toNat), mI (w 400 (w32 (i + 2)).toNat), mI (w 400 (w32 (i + 3)).toNat)] w) := P_ways (d := d + 0) h (w 400 (w32 (i + 1)).toNat) (w 400 (w32 (i + 2)).toNat) (w 400 (w32 (i + 3)).toNat)
  have P := Cw_keep _ _ _ _ _ (by decide) (by decide) P
  refine Wp.s (Wp.s (Wp.s (Wp.s (Wp.s (Wp.s ⟨b1, Wp.s (Wp.s (Wp.s (Wp.s (Wp.s ⟨b2, Wp.s (Wp.s (Wp.s (Wp.s (Wp.s ⟨b3, Wp.s ⟨h0, Cw_mono _ _ _ _ _ _ ?_ P⟩⟩))))⟩))))⟩)))))
  intro r w1 q
  obtain ⟨⟨v, rfl, hm⟩, kw⟩ := q
  have al := alen_kw kw
  have c1 : 0 ≤ w32 (i + 1) ∧ w32 (i + 1) < alen w1 400 := by rw [al]; exact b1
  have c2 : 0 ≤ w32 (i + 2) ∧ w32 (i + 2) < alen w1 400 := by rw [al]; exact b2
  have c3 : 0 ≤ w32 (i + 3) ∧ w32 (i + 3) < alen w1 400 := by rw [al]; exact b3
  rw [← kw.1] at hm
  refine Wp.s (Wp.s (Wp.s (Wp.s (Wp.s (Wp.s ⟨c1, Wp.s (Wp.s (Wp.s (Wp.s (Wp.s ⟨c2, Wp.s (Wp.s (Wp.s (Wp.s (Wp.s ⟨c3, Wp.s ⟨by rw [kw.2]; exact h0, Cw_mono _ _ _ _ _ _ ?_ hm⟩⟩))))⟩))))⟩)))))
  intro r w2 q
  obtain ⟨rfl, hi, e1, e2⟩ := q
  exact Wp.s ⟨fun _ => k w2 hi (Or.inl e1) e2, fun z => absurd rfl z⟩
set_option maxRecDepth 8192 in
theorem lw_20 {d : Nat} {n1 : Int} {Q : MV → Wd → Prop} {w : Wd} {i : Int} (h : Inv w) (h0 : w 401 0 = 186) (b1 : 0 ≤ w32 (i + 1) ∧ w32 (i + 1) < alen w 400) (b2 : 0 ≤ w32 (i + 2) ∧ w32 (i + 2) < alen w 400)  (k : LwK d n1 Q w i) : Wp (Cw (d + 30)) cd_law (2, 2, n1) Q 509 [mR 400, mR 0, mR 144, mR 185, mI i, none, none] [] w := by
  have P : Cw (d + 30) 118 (mR 0 :: [mI (w 400 (w32 (i + 1)).toNat), mI (w 400 (w32 (i + 2)).toNat)]) w (Mid (d + 30) 248 [mI (w 400 (w32 (i + 1)).toNat), mI (w 400 (w32 (i + 2)).toNat)] w) := P_latest (d := d + 0) h (w 400 (w32 (i + 1)).toNat) (w 400 (w32 (i + 2)).toNat)
  have P := Cw_keep _ _ _ _ _ (by decide) (by decide) P
  refine Wp.s (Wp.s (Wp.s (Wp.s (Wp.s (Wp.s ⟨b1, Wp.s (Wp.s (Wp.s (Wp.s (Wp.s ⟨b2, Wp.s ⟨h0, Cw_mono _ _ _ _ _ _ ?_ P⟩⟩))))⟩)))))
  intro r w1 q
  obtain ⟨⟨v, rfl, hm⟩, kw⟩ := q
  have al := alen_kw kw
  have c1 : 0 ≤ w32 (i + 1) ∧ w32 (i + 1) < alen w1 400 := by rw [al]; exact b1
  have c2 : 0 ≤ w32 (i + 2) ∧ w32 (i + 2) < alen w1 400 := by rw [al]; exact b2
  rw [← kw.1] at hm
  refine Wp.s (Wp.s (Wp.s (Wp.s (Wp.s (Wp.s ⟨c1, Wp.s (Wp.s (Wp.s (Wp.s (Wp.s ⟨c2, Wp.s ⟨by rw [kw.2]; exact h0, Cw_mono _ _ _ _ _ _ ?_ hm⟩⟩))))⟩)))))
  intro r w2 q
  obtain ⟨rfl, hi, e1, e2⟩ := q
  exact Wp.s ⟨fun _ => k w2 hi (Or.inl e1) e2, fun z => absurd rfl z⟩
set_option maxRecDepth 8192 in
theorem lw_21 {d : Nat} {n1 : Int} {Q : MV → Wd → Prop} {w : Wd} {i : Int} (h : Inv w) (h0 : w 401 0 = 186)   (k : LwK d n1 Q w i) : Wp (Cw (d + 30)) cd_law (2, 2, n1) Q 536 [mR 400, mR 0, mR 144, mR 185, mI i, none, none] [] w := by
  have P : Cw (d + 30) 119 (mR 0 :: []) w (Mid (d + 30) 252 [] w) := P_rest (d := d + 0) h 
  have P := Cw_keep _ _ _ _ _ (by decide) (by decide) P
  refine Wp.s (Wp.s ⟨h0, Cw_mono _ _ _ _ _ _ ?_ P⟩)
  intro r w1 q
  obtain ⟨⟨v, rfl, hm⟩, kw⟩ := q
  refine Wp.s (Wp.s ⟨by rw [kw.2]; exact h0, Cw_mono _ _ _ _ _ _ ?_ hm⟩)
  intro r w2 q
  obtain ⟨rfl, hi, e1, e2⟩ := q
  exact Wp.s ⟨fun _ => k w2 hi (Or.inl e1) e2, fun z => absurd rfl z⟩
set_option maxRecDepth 8192 in
theorem lw_22 {d : Nat} {n1 : Int} {Q : MV → Wd → Prop} {w : Wd} {i : Int} (h : Inv w) (h0 : w 401 0 = 186) (b1 : 0 ≤ w32 (i + 1) ∧ w32 (i + 1) < alen w 400)  (k : LwK d n1 Q w i) : Wp (Cw (d + 30)) cd_law (2, 2, n1) Q 543 [mR 400, mR 0, mR 144, mR 185, mI i, none, none] [] w := by
  have P : Cw (d + 30) 125 (mR 0 :: [mI (w 400 (w32 (i + 1)).toNat)]) w (Mid (d + 30) 253 [mI (w 400 (w32 (i + 1)).toNat)] w) := P_restOf (d := d + 27) h (w 400 (w32 (i + 1)).toNat)
  have P := Cw_keep _ _ _ _ _ (by decide) (by decide) P
  refine Wp.s (Wp.s (Wp.s (Wp.s (Wp.s (Wp.s ⟨b1, Wp.s ⟨h0, Cw_mono _ _ _ _ _ _ ?_ P⟩⟩)))))
  intro r w1 q
  obtain ⟨⟨v, rfl, hm⟩, kw⟩ := q
  have al := alen_kw kw
  have c1 : 0 ≤ w32 (i + 1) ∧ w32 (i + 1) < alen w1 400 := by rw [al]; exact b1
  rw [← kw.1] at hm
  refine Wp.s (Wp.s (Wp.s (Wp.s (Wp.s (Wp.s ⟨c1, Wp.s ⟨by rw [kw.2]; exact h0, Cw_mono _ _ _ _ _ _ ?_ hm⟩⟩)))))
  intro r w2 q
  obtain ⟨rfl, hi, e1, e2⟩ := q
  exact Wp.s ⟨fun _ => k w2 hi (Or.inl e1) e2, fun z => absurd rfl z⟩
set_option maxRecDepth 8192 in
theorem lw_23 {d : Nat} {n1 : Int} {Q : MV → Wd → Prop} {w : Wd} {i : Int} (h : Inv w) (h0 : w 401 0 = 186) (b1 : 0 ≤ w32 (i + 1) ∧ w32 (i + 1) < alen w 400)  (k : LwK d n1 Q w i) : Wp (Cw (d + 30)) cd_law (2, 2, n1) Q 560 [mR 400, mR 0, mR 144, mR 185, mI i, none, none] [] w := by
  have P : Cw (d + 30) 126 (mR 0 :: [mI (w 400 (w32 (i + 1)).toNat)]) w (Mid (d + 30) 249 [mI (w 400 (w32 (i + 1)).toNat)] w) := P_middle (d := d + 0) h (w 400 (w32 (i + 1)).toNat)
  have P := Cw_keep _ _ _ _ _ (by decide) (by decide) P
  refine Wp.s (Wp.s (Wp.s (Wp.s (Wp.s (Wp.s ⟨b1, Wp.s ⟨h0, Cw_mono _ _ _ _ _ _ ?_ P⟩⟩)))))
  intro r w1 q
  obtain ⟨⟨v, rfl, hm⟩, kw⟩ := q
  have al := alen_kw kw
  have c1 : 0 ≤ w32 (i + 1) ∧ w32 (i + 1) < alen w1 400 := by rw [al]; exact b1
  rw [← kw.1] at hm
  refine Wp.s (Wp.s (Wp.s (Wp.s (Wp.s (Wp.s ⟨c1, Wp.s ⟨by rw [kw.2]; exact h0, Cw_mono _ _ _ _ _ _ ?_ hm⟩⟩)))))
  intro r w2 q
  obtain ⟨rfl, hi, e1, e2⟩ := q
  exact Wp.s ⟨fun _ => k w2 hi (Or.inl e1) e2, fun z => absurd rfl z⟩
set_option maxRecDepth 8192 in
theorem lw_24 {d : Nat} {n1 : Int} {Q : MV → Wd → Prop} {w : Wd} {i : Int} (h : Inv w) (h0 : w 401 0 = 186)   (k : LwK d n1 Q w i) : Wp (Cw (d + 30)) cd_law (2, 2, n1) Q 577 [mR 400, mR 0, mR 144, mR 185, mI i, none, none] [] w := by
  have P : Cw (d + 30) 127 (mR 0 :: []) w (Mid (d + 30) 251 [] w) := P_middleBy (d := d + 27) h 
  have P := Cw_keep _ _ _ _ _ (by decide) (by decide) P
  refine Wp.s (Wp.s ⟨h0, Cw_mono _ _ _ _ _ _ ?_ P⟩)
  intro r w1 q
  obtain ⟨⟨v, rfl, hm⟩, kw⟩ := q
  refine Wp.s (Wp.s ⟨by rw [kw.2]; exact h0, Cw_mono _ _ _ _ _ _ ?_ hm⟩)
  intro r w2 q
  obtain ⟨rfl, hi, e1, e2⟩ := q
  exact Wp.s ⟨fun _ => k w2 hi (Or.inl e1) e2, fun z => absurd rfl z⟩
set_option maxRecDepth 8192 in
theorem lw_25 {d : Nat} {n1 : Int} {Q : MV → Wd → Prop} {w : Wd} {i : Int} (h : Inv w) (h0 : w 401 0 = 186)   (k : LwK d n1 Q w i) : Wp (Cw (d + 30)) cd_law (2, 2, n1) Q 584 [mR 400, mR 0, mR 144, mR 185, mI i, none, none] [] w := by
  have P : Cw (d + 30) 128 (mR 0 :: []) w (Mid (d + 30) 254 [] w) := P_ring (d := d + 0) h 
  have P := Cw_keep _ _ _ _ _ (by decide) (by decide) P
  refine Wp.s (Wp.s ⟨h0, Cw_mono _ _ _ _ _ _ ?_ P⟩)
  intro r w1 q
  obtain ⟨⟨v, rfl, hm⟩, kw⟩ := q
  refine Wp.s (Wp.s ⟨by rw [kw.2]; exact h0, Cw_mono _ _ _ _ _ _ ?_ hm⟩)
  intro r w2 q
  obtain ⟨rfl, hi, e1, e2⟩ := q
  exact Wp.s ⟨fun _ => k w2 hi (Or.inl e1) e2, fun z => absurd rfl z⟩
set_option maxRecDepth 8192 in
theorem lw_26 {d : Nat} {n1 : Int} {Q : MV → Wd → Prop} {w : Wd} {i : Int} (h : Inv w) (h0 : w 401 0 = 186) (b1 : 0 ≤ w32 (i + 1) ∧ w32 (i + 1) < alen w 400) (h512 : w 401 1 < 512) (k : LwK d n1 Q w i) : Wp (Cw (d + 30)) cd_law (2, 2, n1) Q 591 [mR 400, mR 0, mR 144, mR 185, mI i, none, none] [] w := by
  refine Wp.s (Wp.s (Wp.s (Wp.s (Wp.s (Wp.s ⟨b1, Wp.s (Wp.s ⟨h0, Cw_282 (d := d + 29) ⟨(w 400 (w32 (i + 1)).toNat), rfl, by rw [h.gainers.1]; exact h.gainers.2, h512, fun ok => ?_, fun nok => ?_⟩⟩)⟩)))))
  · have hi : Inv (ub (ub w 185 0 (w 143 (w 400 (w32 (i + 1)).toNat).toNat)) 401 1 (w 401 1 + 1)) := (Inv.mk h.tape h.fault h.ws h.wp h.wb h.rv h.rp h.rb h.im0 h.im1 h.stale h.told h.wat h.hands h.hand h.askers h.asked h.gainers h.gained h.mid h.star h.done h.day h.shown h.words h.reserved)
    refine Wp.s (Wp.s (Wp.s (Wp.s (Wp.s (Wp.s (Wp.s ⟨b1, Wp.s ⟨h0, S_mgain (d := d + 27) hi (w 400 (w32 (i + 1)).toNat) (fun ok2 => ?_) (fun nok2 => ?_)⟩⟩))))))
    rotate_left
    · exact absurd ok nok2
    have hj : Inv (ub (ub (ub w 185 0 (w 143 (w 400 (w32 (i + 1)).toNat).toNat)) 401 1 (w 401 1 + 1)) 144 0 0) := (Inv.mk h.tape h.fault h.ws h.wp h.wb h.rv h.rp h.rb h.im0 h.im1 h.stale h.told h.wat h.hands h.hand h.askers h.asked h.gainers h.gained h.mid h.star h.done h.day h.shown h.words h.reserved)
    refine Wp.s (Wp.s (Wp.s ⟨h0, M_thrown_144_en (d := d + 29) ?_⟩))
    refine Wp.s (Wp.s ⟨fun _ => ?_, fun z => absurd rfl z⟩)
    refine Wp.s (Wp.s ⟨fun z => absurd rfl z, fun _ => ?_⟩)
    refine Wp.s (Wp.s (Wp.s ⟨⟨by decide, by show (0 : Int) < szI 185; decide⟩, Wp.s (Wp.s (Wp.s (Wp.s ⟨fun _ => ?_, fun z => absurd (cmp3_self _) z⟩)))⟩))
    refine Wp.s (Wp.fgd (leA.k (leA.k (leA.k (leA.k (leA.k (leA.f (leA.f leA.e))))))) ?_)
    exact k _ hj (Or.inr rfl) rfl
  · have hi : Inv (ub w 401 1 (w 401 1 + 1)) := (Inv.mk h.tape h.fault h.ws h.wp h.wb h.rv h.rp h.rb h.im0 h.im1 h.stale h.told h.wat h.hands h.hand h.askers h.asked h.gainers h.gained h.mid h.star h.done h.day h.shown h.words h.reserved)
    refine Wp.s (Wp.s (Wp.s (Wp.s (Wp.s (Wp.s (Wp.s ⟨b1, Wp.s ⟨h0, S_mgain (d := d + 27) hi (w 400 (w32 (i + 1)).toNat) (fun ok2 => ?_) (fun nok2 => ?_)⟩⟩))))))
    · exact absurd ok2 nok
    have hj : Inv (ub (ub w 401 1 (w 401 1 + 1)) 144 0 1) := (Inv.mk h.tape h.fault h.ws h.wp h.wb h.rv h.rp h.rb h.im0 h.im1 h.stale h.told h.wat h.hands h.hand h.askers h.asked h.gainers h.gained h.mid h.star h.done h.day h.shown h.words h.reserved)
    refine Wp.s (Wp.s (Wp.s ⟨h0, M_thrown_144_en (d := d + 29) ?_⟩))
    refine Wp.s (Wp.s ⟨fun _ => ?_, fun z => absurd rfl z⟩)
    refine Wp.s (Wp.s ⟨fun _ => ?_, fun z => absurd (by decide : ¬ (1 : Int) = 0) z⟩)
    refine Wp.s (Wp.fgd (leA.k (leA.k (leA.k (leA.k (leA.k (leA.f (leA.f leA.e))))))) ?_)
    exact k _ hj (Or.inr rfl) rfl
set_option maxRecDepth 8192 in
theorem lw_27 {d : Nat} {n1 : Int} {Q : MV → Wd → Prop} {w : Wd} {i : Int} (h : Inv w) (h0 : w 401 0 = 186)   (k : LwK d n1 Q w i) : Wp (Cw (d + 30)) cd_law (2, 2, n1) Q 626 [mR 400, mR 0, mR 144, mR 185, mI i, none, none] [] w := by
  have P : Cw (d + 30) 141 (mR 0 :: []) w (Mid (d + 30) 262 [] w) := P_lasts (d := d + 0) h 
  have P := Cw_keep _ _ _ _ _ (by decide) (by decide) P
  refine Wp.s (Wp.s ⟨h0, Cw_mono _ _ _ _ _ _ ?_ P⟩)
  intro r w1 q
  obtain ⟨⟨v, rfl, hm⟩, kw⟩ := q
  refine Wp.s (Wp.s ⟨by rw [kw.2]; exact h0, Cw_mono _ _ _ _ _ _ ?_ hm⟩)
  intro r w2 q
  obtain ⟨rfl, hi, e1, e2⟩ := q
  exact Wp.s ⟨fun _ => k w2 hi (Or.inl e1) e2, fun z => absurd rfl z⟩
set_option maxRecDepth 8192 in
theorem lw_28 {d : Nat} {n1 : Int} {Q : MV → Wd → Prop} {w : Wd} {i : Int} (h : Inv w) (h0 : w 401 0 = 186) (b1 : 0 ≤ w32 (i + 1) ∧ w32 (i + 1) < alen w 400) (b2 : 0 ≤ w32 (i + 2) ∧ w32 (i + 2) < alen w 400)  (k : LwK d n1 Q w i) : Wp (Cw (d + 30)) cd_law (2, 2, n1) Q 633 [mR 400, mR 0, mR 144, mR 185, mI i, none, none] [] w := by
  have P : Cw (d + 30) 144 (mR 0 :: [mI (w 400 (w32 (i + 1)).toNat), mI (w 400 (w32 (i + 2)).toNat)]) w (Mid (d + 30) 263 [mI (w 400 (w32 (i + 1)).toNat), mI (w 400 (w32 (i + 2)).toNat)] w) := P_quarrel (d := d + 0) h (w 400 (w32 (i + 1)).toNat) (w 400 (w32 (i + 2)).toNat)
  have P := Cw_keep _ _ _ _ _ (by decide) (by decide) P
  refine Wp.s (Wp.s (Wp.s (Wp.s (Wp.s (Wp.s ⟨b1, Wp.s (Wp.s (Wp.s (Wp.s (Wp.s ⟨b2, Wp.s ⟨h0, Cw_mono _ _ _ _ _ _ ?_ P⟩⟩))))⟩)))))
  intro r w1 q
  obtain ⟨⟨v, rfl, hm⟩, kw⟩ := q
  have al := alen_kw kw
  have c1 : 0 ≤ w32 (i + 1) ∧ w32 (i + 1) < alen w1 400 := by rw [al]; exact b1
  have c2 : 0 ≤ w32 (i + 2) ∧ w32 (i + 2) < alen w1 400 := by rw [al]; exact b2
  rw [← kw.1] at hm
  refine Wp.s (Wp.s (Wp.s (Wp.s (Wp.s (Wp.s ⟨c1, Wp.s (Wp.s (Wp.s (Wp.s (Wp.s ⟨c2, Wp.s ⟨by rw [kw.2]; exact h0, Cw_mono _ _ _ _ _ _ ?_ hm⟩⟩))))⟩)))))
  intro r w2 q
  obtain ⟨rfl, hi, e1, e2⟩ := q
  exact Wp.s ⟨fun _ => k w2 hi (Or.inl e1) e2, fun z => absurd rfl z⟩
set_option maxRecDepth 8192 in
theorem lw_29 {d : Nat} {n1 : Int} {Q : MV → Wd → Prop} {w : Wd} {i : Int} (h : Inv w) (h0 : w 401 0 = 186)   (k : LwK d n1 Q w i) : Wp (Cw (d + 30)) cd_law (2, 2, n1) Q 660 [mR 400, mR 0, mR 144, mR 185, mI i, none, none] [] w := by
  have P : Cw (d + 30) 147 (mR 0 :: []) w (Mid (d + 30) 264 [] w) := P_starves (d := d + 27) h 
  have P := Cw_keep _ _ _ _ _ (by decide) (by decide) P
  refine Wp.s (Wp.s ⟨h0, Cw_mono _ _ _ _ _ _ ?_ P⟩)
  intro r w1 q
  obtain ⟨⟨v, rfl, hm⟩, kw⟩ := q
  refine Wp.s (Wp.s ⟨by rw [kw.2]; exact h0, Cw_mono _ _ _ _ _ _ ?_ hm⟩)
  intro r w2 q
  obtain ⟨rfl, hi, e1, e2⟩ := q
  exact Wp.s ⟨fun _ => k w2 hi (Or.inl e1) e2, fun z => absurd rfl z⟩
set_option maxRecDepth 8192 in
theorem lw_30 {d : Nat} {n1 : Int} {Q : MV → Wd → Prop} {w : Wd} {i : Int} (h : Inv w) (h0 : w 401 0 = 186)   (k : LwK d n1 Q w i) : Wp (Cw (d + 30)) cd_law (2, 2, n1) Q 667 [mR 400, mR 0, mR 144, mR 185, mI i, none, none] [] w := by
  have P : Cw (d + 30) 148 (mR 0 :: []) w (Mid (d + 30) 265 [] w) := P_mend (d := d + 0) h 
  have P := Cw_keep _ _ _ _ _ (by decide) (by decide) P
  refine Wp.s (Wp.s ⟨h0, Cw_mono _ _ _ _ _ _ ?_ P⟩)
  intro r w1 q
  obtain ⟨⟨v, rfl, hm⟩, kw⟩ := q
  refine Wp.s (Wp.s ⟨by rw [kw.2]; exact h0, Cw_mono _ _ _ _ _ _ ?_ hm⟩)
  intro r w2 q
  obtain ⟨rfl, hi, e1, e2⟩ := q
  exact Wp.s ⟨fun _ => k w2 hi (Or.inl e1) e2, fun z => absurd rfl z⟩
set_option maxRecDepth 8192 in
theorem lw_31 {d : Nat} {n1 : Int} {Q : MV → Wd → Prop} {w : Wd} {i : Int} (h : Inv w) (h0 : w 401 0 = 186)   (k : LwK d n1 Q w i) : Wp (Cw (d + 30)) cd_law (2, 2, n1) Q 674 [mR 400, mR 0, mR 144, mR 185, mI i, none, none] [] w := by
  have P : Cw (d + 30) 151 (mR 0 :: []) w (Mid (d + 30) 266 [] w) := P_live (d := d + 0) h 
  have P := Cw_keep _ _ _ _ _ (by decide) (by decide) P
  refine Wp.s (Wp.s ⟨h0, Cw_mono _ _ _ _ _ _ ?_ P⟩)
  intro r w1 q
  obtain ⟨⟨v, rfl, hm⟩, kw⟩ := q
  refine Wp.s (Wp.s ⟨by rw [kw.2]; exact h0, Cw_mono _ _ _ _ _ _ ?_ hm⟩)
  intro r w2 q
  obtain ⟨rfl, hi, e1, e2⟩ := q
  exact Wp.s ⟨fun _ => k w2 hi (Or.inl e1) e2, fun z => absurd rfl z⟩
set_option maxRecDepth 8192 in
theorem lw_32 {d : Nat} {n1 : Int} {Q : MV → Wd → Prop} {w : Wd} {i : Int} (h : Inv w) (h0 : w 401 0 = 186)   (k : LwK d n1 Q w i) : Wp (Cw (d + 30)) cd_law (2, 2, n1) Q 681 [mR 400, mR 0, mR 144, mR 185, mI i, none, none] [] w := by
  have P : Cw (d + 30) 154 (mR 0 :: []) w (Mid (d + 30) 267 [] w) := P_stop (d := d + 0) h 
  have P := Cw_keep _ _ _ _ _ (by decide) (by decide) P
  refine Wp.s (Wp.s ⟨h0, Cw_mono _ _ _ _ _ _ ?_ P⟩)
  intro r w1 q
  obtain ⟨⟨v, rfl, hm⟩, kw⟩ := q
  refine Wp.s (Wp.s ⟨by rw [kw.2]; exact h0, Cw_mono _ _ _ _ _ _ ?_ hm⟩)
  intro r w2 q
  obtain ⟨rfl, hi, e1, e2⟩ := q
  exact Wp.s ⟨fun _ => k w2 hi (Or.inl e1) e2, fun z => absurd rfl z⟩
set_option maxRecDepth 8192 in
theorem lw_33 {d : Nat} {n1 : Int} {Q : MV → Wd → Prop} {w : Wd} {i : Int} (h : Inv w) (h0 : w 401 0 = 186) (b1 : 0 ≤ w32 (i + 1) ∧ w32 (i + 1) < alen w 400) (b2 : 0 ≤ w32 (i + 2) ∧ w32 (i + 2) < alen w 400) (b3 : 0 ≤ w32 (i + 3) ∧ w32 (i + 3) < alen w 400)  (k : LwK d n1 Q w i) : Wp (Cw (d + 30)) cd_law (2, 2, n1) Q 688 [mR 400, mR 0, mR 144, mR 185, mI i, none, none] [] w := by
  have P : Cw (d + 30) 156 (mR 0 :: [mI (w 400 (w32 (i + 1)).toNat), mI (w 400 (w32 (i + 2)).toNat), mI (w 400 (w32 (i + 3)).toNat)]) w (Mid (d + 30) 268 [mI (w 400 (w32 (i + 1)).toNat), mI (w 400 (w32 (i + 2)).toNat), mI (w 400 (w32 (i + 3)).toNat)] w) := P_other (d := d + 0) h (w 400 (w32 (i + 1)).toNat) (w 400 (w32 (i + 2)).toNat) (w 400 (w32 (i + 3)).toNat)
  have P := Cw_keep _ _ _ _ _ (by decide) (by decide) P
  refine Wp.s (Wp.s (Wp.s (Wp.s (Wp.s (Wp.s ⟨b1, Wp.s (Wp.s (Wp.s (Wp.s (Wp.s ⟨b2, Wp.s (Wp.s (Wp.s (Wp.s (Wp.s ⟨b3, Wp.s ⟨h0, Cw_mono _ _ _ _ _ _ ?_ P⟩⟩))))⟩))))⟩)))))
  intro r w1 q
  obtain ⟨⟨v, rfl, hm⟩, kw⟩ := q
  have al := alen_kw kw
  have c1 : 0 ≤ w32 (i + 1) ∧ w32 (i + 1) < alen w1 400 := by rw [al]; exact b1
  have c2 : 0 ≤ w32 (i + 2) ∧ w32 (i + 2) < alen w1 400 := by rw [al]; exact b2
  have c3 : 0 ≤ w32 (i + 3) ∧ w32 (i + 3) < alen w1 400 := by rw [al]; exact b3
  rw [← kw.1] at hm
  refine Wp.s (Wp.s (Wp.s (Wp.s (Wp.s (Wp.s ⟨c1, Wp.s (Wp.s (Wp.s (Wp.s (Wp.s ⟨c2, Wp.s (Wp.s (Wp.s (Wp.s (Wp.s ⟨c3, Wp.s ⟨by rw [kw.2]; exact h0, Cw_mono _ _ _ _ _ _ ?_ hm⟩⟩))))⟩))))⟩)))))
  intro r w2 q
  obtain ⟨rfl, hi, e1, e2⟩ := q
  exact Wp.s ⟨fun _ => k w2 hi (Or.inl e1) e2, fun z => absurd rfl z⟩
set_option maxRecDepth 8192 in
theorem lw_34 {d : Nat} {n1 : Int} {Q : MV → Wd → Prop} {w : Wd} {i : Int} (h : Inv w) (h0 : w 401 0 = 186) (b1 : 0 ≤ w32 (i + 1) ∧ w32 (i + 1) < alen w 400) (b2 : 0 ≤ w32 (i + 2) ∧ w32 (i + 2) < alen w 400) (b3 : 0 ≤ w32 (i + 3) ∧ w32 (i + 3) < alen w 400) (b4 : 0 ≤ w32 (i + 4) ∧ w32 (i + 4) < alen w 400)  (k : LwK d n1 Q w i) : Wp (Cw (d + 30)) cd_law (2, 2, n1) Q 725 [mR 400, mR 0, mR 144, mR 185, mI i, none, none] [] w := by
  have P : Cw (d + 30) 157 (mR 0 :: [mI (w 400 (w32 (i + 1)).toNat), mI (w 400 (w32 (i + 2)).toNat), mI (w 400 (w32 (i + 3)).toNat), mI (w 400 (w32 (i + 4)).toNat)]) w (Mid (d + 30) 269 [mI (w 400 (w32 (i + 1)).toNat), mI (w 400 (w32 (i + 2)).toNat), mI (w 400 (w32 (i + 3)).toNat), mI (w 400 (w32 (i + 4)).toNat)] w) := P_note (d := d + 26) h (w 400 (w32 (i + 1)).toNat) (w 400 (w32 (i + 2)).toNat) (w 400 (w32 (i + 3)).toNat) (w 400 (w32 (i + 4)).toNat)
  have P := Cw_keep _ _ _ _ _ (by decide) (by decide) P
  refine Wp.s (Wp.s (Wp.s (Wp.s (Wp.s (Wp.s ⟨b1, Wp.s (Wp.s (Wp.s (Wp.s (Wp.s ⟨b2, Wp.s (Wp.s (Wp.s (Wp.s (Wp.s ⟨b3, Wp.s (Wp.s (Wp.s (Wp.s (Wp.s ⟨b4, Wp.s ⟨h0, Cw_mono _ _ _ _ _ _ ?_ P⟩⟩))))⟩))))⟩))))⟩)))))
  intro r w1 q
  obtain ⟨⟨v, rfl, hm⟩, kw⟩ := q
  have al := alen_kw kw
  have c1 : 0 ≤ w32 (i + 1) ∧ w32 (i + 1) < alen w1 400 := by rw [al]; exact b1
  have c2 : 0 ≤ w32 (i + 2) ∧ w32 (i + 2) < alen w1 400 := by rw [al]; exact b2
  have c3 : 0 ≤ w32 (i + 3) ∧ w32 (i + 3) < alen w1 400 := by rw [al]; exact b3
  have c4 : 0 ≤ w32 (i + 4) ∧ w32 (i + 4) < alen w1 400 := by rw [al]; exact b4
  rw [← kw.1] at hm
  refine Wp.s (Wp.s (Wp.s (Wp.s (Wp.s (Wp.s ⟨c1, Wp.s (Wp.s (Wp.s (Wp.s (Wp.s ⟨c2, Wp.s (Wp.s (Wp.s (Wp.s (Wp.s ⟨c3, Wp.s (Wp.s (Wp.s (Wp.s (Wp.s ⟨c4, Wp.s ⟨by rw [kw.2]; exact h0, Cw_mono _ _ _ _ _ _ ?_ hm⟩⟩))))⟩))))⟩))))⟩)))))
  intro r w2 q
  obtain ⟨rfl, hi, e1, e2⟩ := q
  exact Wp.s ⟨fun _ => k w2 hi (Or.inl e1) e2, fun z => absurd rfl z⟩
set_option maxRecDepth 8192 in
theorem lw_35 {d : Nat} {n1 : Int} {Q : MV → Wd → Prop} {w : Wd} {i : Int} (h : Inv w) (h0 : w 401 0 = 186) (b1 : 0 ≤ w32 (i + 1) ∧ w32 (i + 1) < alen w 400) (b2 : 0 ≤ w32 (i + 2) ∧ w32 (i + 2) < alen w 400)  (k : LwK d n1 Q w i) : Wp (Cw (d + 30)) cd_law (2, 2, n1) Q 772 [mR 400, mR 0, mR 144, mR 185, mI i, none, none] [] w := by
  have P : Cw (d + 30) 159 (mR 0 :: [mI (w 400 (w32 (i + 1)).toNat), mI (w 400 (w32 (i + 2)).toNat)]) w (Mid (d + 30) 271 [mI (w 400 (w32 (i + 1)).toNat), mI (w 400 (w32 (i + 2)).toNat)] w) := P_lies (d := d + 0) h (w 400 (w32 (i + 1)).toNat) (w 400 (w32 (i + 2)).toNat)
  have P := Cw_keep _ _ _ _ _ (by decide) (by decide) P
  refine Wp.s (Wp.s (Wp.s (Wp.s (Wp.s (Wp.s ⟨b1, Wp.s (Wp.s (Wp.s (Wp.s (Wp.s ⟨b2, Wp.s ⟨h0, Cw_mono _ _ _ _ _ _ ?_ P⟩⟩))))⟩)))))
  intro r w1 q
  obtain ⟨⟨v, rfl, hm⟩, kw⟩ := q
  have al := alen_kw kw
  have c1 : 0 ≤ w32 (i + 1) ∧ w32 (i + 1) < alen w1 400 := by rw [al]; exact b1
  have c2 : 0 ≤ w32 (i + 2) ∧ w32 (i + 2) < alen w1 400 := by rw [al]; exact b2
  rw [← kw.1] at hm
  refine Wp.s (Wp.s (Wp.s (Wp.s (Wp.s (Wp.s ⟨c1, Wp.s (Wp.s (Wp.s (Wp.s (Wp.s ⟨c2, Wp.s ⟨by rw [kw.2]; exact h0, Cw_mono _ _ _ _ _ _ ?_ hm⟩⟩))))⟩)))))
  intro r w2 q
  obtain ⟨rfl, hi, e1, e2⟩ := q
  exact Wp.s ⟨fun _ => k w2 hi (Or.inl e1) e2, fun z => absurd rfl z⟩
set_option maxRecDepth 8192 in
theorem lw_36 {d : Nat} {n1 : Int} {Q : MV → Wd → Prop} {w : Wd} {i : Int} (h : Inv w) (h0 : w 401 0 = 186) (b1 : 0 ≤ w32 (i + 1) ∧ w32 (i + 1) < alen w 400)  (k : LwK d n1 Q w i) : Wp (Cw (d + 30)) cd_law (2, 2, n1) Q 799 [mR 400, mR 0, mR 144, mR 185, mI i, none, none] [] w := by
  have P : Cw (d + 30) 164 (mR 0 :: [mI (w 400 (w32 (i + 1)).toNat)]) w (Mid (d + 30) 273 [mI (w 400 (w32 (i + 1)).toNat)] w) := P_image (d := d + 26) h (w 400 (w32 (i + 1)).toNat)
  have P := Cw_keep _ _ _ _ _ (by decide) (by decide) P
  refine Wp.s (Wp.s (Wp.s (Wp.s (Wp.s (Wp.s ⟨b1, Wp.s ⟨h0, Cw_mono _ _ _ _ _ _ ?_ P⟩⟩)))))
  intro r w1 q
  obtain ⟨⟨v, rfl, hm⟩, kw⟩ := q
  have al := alen_kw kw
  have c1 : 0 ≤ w32 (i + 1) ∧ w32 (i + 1) < alen w1 400 := by rw [al]; exact b1
  rw [← kw.1] at hm
  refine Wp.s (Wp.s (Wp.s (Wp.s (Wp.s (Wp.s ⟨c1, Wp.s ⟨by rw [kw.2]; exact h0, Cw_mono _ _ _ _ _ _ ?_ hm⟩⟩)))))
  intro r w2 q
  obtain ⟨rfl, hi, e1, e2⟩ := q
  exact Wp.s ⟨fun _ => k w2 hi (Or.inl e1) e2, fun z => absurd rfl z⟩
set_option maxRecDepth 8192 in
theorem lw_37 {d : Nat} {n1 : Int} {Q : MV → Wd → Prop} {w : Wd} {i : Int} (h : Inv w) (h0 : w 401 0 = 186) (b1 : 0 ≤ w32 (i + 1) ∧ w32 (i + 1) < alen w 400)  (k : LwK d n1 Q w i) : Wp (Cw (d + 30)) cd_law (2, 2, n1) Q 816 [mR 400, mR 0, mR 144, mR 185, mI i, none, none] [] w := by
  have P : Cw (d + 30) 166 (mR 0 :: [mI (w 400 (w32 (i + 1)).toNat)]) w (Mid (d + 30) 274 [mI (w 400 (w32 (i + 1)).toNat)] w) := P_restore (d := d + 26) h (w 400 (w32 (i + 1)).toNat)
  have P := Cw_keep _ _ _ _ _ (by decide) (by decide) P
  refine Wp.s (Wp.s (Wp.s (Wp.s (Wp.s (Wp.s ⟨b1, Wp.s ⟨h0, Cw_mono _ _ _ _ _ _ ?_ P⟩⟩)))))
  intro r w1 q
  obtain ⟨⟨v, rfl, hm⟩, kw⟩ := q
  have al := alen_kw kw
  have c1 : 0 ≤ w32 (i + 1) ∧ w32 (i + 1) < alen w1 400 := by rw [al]; exact b1
  rw [← kw.1] at hm
  refine Wp.s (Wp.s (Wp.s (Wp.s (Wp.s (Wp.s ⟨c1, Wp.s ⟨by rw [kw.2]; exact h0, Cw_mono _ _ _ _ _ _ ?_ hm⟩⟩)))))
  intro r w2 q
  obtain ⟨rfl, hi, e1, e2⟩ := q
  exact Wp.s ⟨fun _ => k w2 hi (Or.inl e1) e2, fun z => absurd rfl z⟩
set_option maxRecDepth 8192 in
theorem lw_38 {d : Nat} {n1 : Int} {Q : MV → Wd → Prop} {w : Wd} {i : Int} (h : Inv w) (h0 : w 401 0 = 186) (b1 : 0 ≤ w32 (i + 1) ∧ w32 (i + 1) < alen w 400)  (k : LwK d n1 Q w i) : Wp (Cw (d + 30)) cd_law (2, 2, n1) Q 833 [mR 400, mR 0, mR 144, mR 185, mI i, none, none] [] w := by
  have P : Cw (d + 30) 167 (mR 0 :: [mI (w 400 (w32 (i + 1)).toNat)]) w (Mid (d + 30) 275 [mI (w 400 (w32 (i + 1)).toNat)] w) := P_count (d := d + 27) h (w 400 (w32 (i + 1)).toNat)
  have P := Cw_keep _ _ _ _ _ (by decide) (by decide) P
  refine Wp.s (Wp.s (Wp.s (Wp.s (Wp.s (Wp.s ⟨b1, Wp.s ⟨h0, Cw_mono _ _ _ _ _ _ ?_ P⟩⟩)))))
  intro r w1 q
  obtain ⟨⟨v, rfl, hm⟩, kw⟩ := q
  have al := alen_kw kw
  have c1 : 0 ≤ w32 (i + 1) ∧ w32 (i + 1) < alen w1 400 := by rw [al]; exact b1
  rw [← kw.1] at hm
  refine Wp.s (Wp.s (Wp.s (Wp.s (Wp.s (Wp.s ⟨c1, Wp.s ⟨by rw [kw.2]; exact h0, Cw_mono _ _ _ _ _ _ ?_ hm⟩⟩)))))
  intro r w2 q
  obtain ⟨rfl, hi, e1, e2⟩ := q
  exact Wp.s ⟨fun _ => k w2 hi (Or.inl e1) e2, fun z => absurd rfl z⟩
theorem swP_all {K : Nat → Prop} (d : Nat) (hd : K d) : ∀ (ts : List Nat) (lo x : Int), (∀ q ∈ ts, K q) → swP lo ts x d K
  | [], _, _, _ => hd
  | q :: ts, lo, x, h => ⟨fun _ => h q (List.mem_cons_self ..), fun _ => swP_all d hd ts (lo + 1) x (fun q hq => h q (List.mem_cons_of_mem _ hq))⟩
set_option maxRecDepth 8192 in
theorem lw_loop {d : Nat} {n1 : Int} {Q : MV → Wd → Prop} {N : Nat} (hN : N ≤ 3072) (hQ : ∀ w, Q (mI 1) w) : ∀ (m n : Nat) (w : Wd), n + m = 520 → Inv w → w 401 0 = 186 → w 401 2 = N → w 401 1 ≤ (n : Int) → Wp (Cw (d + 30)) cd_law (2, 2, n1) Q 13 [mR 400, mR 0, mR 144, mR 185, mI ((6 * n : Nat) : Int), none, none] [] w := by
  intro m
  induction m with
  | zero =>
    intro n w hn h h0 h2 h1
    have al : alen w 400 = N := by unfold alen; rw [if_pos rfl]; exact h2
    refine Wp.s (Wp.s (Wp.s (Wp.s (Wp.s (Wp.s ⟨fun _ => ?_, fun z => absurd ?_ z⟩)))))
    · exact Wp.s (Wp.s ⟨Or.inr rfl, hQ w⟩)
    · show w32 (alen w 400 - 6) < ((6 * n : Nat) : Int)
      rw [al, w32_id (by unfold in32; omega)]; omega
  | succ m ih =>
    intro n w hn h h0 h2 h1
    have al : alen w 400 = N := by unfold alen; rw [if_pos rfl]; exact h2
    refine Wp.s (Wp.s (Wp.s (Wp.s (Wp.s (Wp.s ⟨fun _ => ?_, fun z => ?_⟩)))))
    · exact Wp.s (Wp.s ⟨Or.inr rfl, hQ w⟩)
    have z : ¬ w32 (alen w 400 - 6) < ((6 * n : Nat) : Int) := z
    rw [al, w32_id (by unfold in32; omega)] at z
    have K : LwK d n1 Q w ((6 * n : Nat) : Int) := by
      intro w2 hi e1 e2
      refine Wp.s (Wp.s ?_)
      have c0 : w2 401 0 = 186 := by
        rcases e1 with e | e
        · rw [e]; exact h0
        · rw [e, up1_ne _ (by decide)]; exact h0
      have c2 : w2 401 2 = N := by
        rcases e1 with e | e
        · rw [e]; exact h2
        · rw [e, up1_ne _ (by decide)]; exact h2
      have c1 : w2 401 1 ≤ ((n + 1 : Nat) : Int) := by
        rcases e1 with e | e
        · rw [e]; omega
        · rw [e, up1_self]; omega
      have G := ih (n + 1) w2 (by omega) hi c0 c2 c1
      have e6 : w32 (((6 * n : Nat) : Int) + 6) = ((6 * (n + 1) : Nat) : Int) := by rw [w32_id (by unfold in32; omega)]; omega
      rw [← e6] at G
      exact G
    have B : ∀ k : Int, 0 ≤ k → k < 6 → 0 ≤ w32 (((6 * n : Nat) : Int) + k) ∧ w32 (((6 * n : Nat) : Int) + k) < alen w 400 := fun k a b => by
      rw [al, w32_id (by unfold in32; omega)]; omega
    have h512 : w 401 1 < 512 := by omega
    refine Wp.s (Wp.s (Wp.s ⟨⟨by omega, by show ((6 * n : Nat) : Int) < alen w 400; rw [al]; omega⟩, Wp.s (Wp.s (Wp.s ?_))⟩))
    refine swP_all 850 (K w h (Or.inl rfl) rfl) _ _ _ (fun q hq => ?_)
    have hq : q ∈ ([25, 82, 99, 106, 113, 158, 203, 240, 277, 294, 301, 308, 325, 342, 349, 376, 421, 428, 445, 472, 509, 536, 543, 560, 577, 584, 591, 626, 633, 660, 667, 674, 681, 688, 725, 772, 799, 816, 833] : List Nat) := hq
    simp only [List.mem_cons, List.not_mem_nil, or_false] at hq
    rcases hq with rfl | rfl | rfl | rfl | rfl | rfl | rfl | rfl | rfl | rfl | rfl | rfl | rfl | rfl | rfl | rfl | rfl | rfl | rfl | rfl | rfl | rfl | rfl | rfl | rfl | rfl | rfl | rfl | rfl | rfl | rfl | rfl | rfl | rfl | rfl | rfl | rfl | rfl | rfl
    · exact lw_0 h h0 (B 1 (by decide) (by decide)) (B 2 (by decide) (by decide)) (B 3 (by decide) (by decide)) (B 4 (by decide) (by decide)) (B 5 (by decide) (by decide)) K
    · exact lw_1 h h0 (B 1 (by decide) (by decide)) K
    · exact lw_2 h h0  K
    · exact lw_3 h h0  K
    · exact lw_4 h h0 (B 1 (by decide) (by decide)) (B 2 (by decide) (by decide)) h512 K
    · exact lw_5 h h0 (B 1 (by decide) (by decide)) (B 2 (by decide) (by decide)) h512 K
    · exact lw_6 h h0 (B 1 (by decide) (by decide)) (B 2 (by decide) (by decide)) (B 3 (by decide) (by decide)) K
    · exact lw_7 h h0 (B 1 (by decide) (by decide)) (B 2 (by decide) (by decide)) (B 3 (by decide) (by decide)) K
    · exact lw_8 h h0 (B 1 (by decide) (by decide)) K
    · exact lw_9 h h0  K
    · exact lw_10 h h0  K
    · exact lw_11 h h0 (B 1 (by decide) (by decide)) K
    · exact lw_12 h h0 (B 1 (by decide) (by decide)) K
    · exact lw_13 h h0  K
    · exact lw_14 h h0 (B 1 (by decide) (by decide)) (B 2 (by decide) (by decide)) K
    · exact lw_15 h h0 (B 1 (by decide) (by decide)) (B 2 (by decide) (by decide)) h512 K
    · exact lw_16 h h0  K
    · exact lw_17 h h0 (B 1 (by decide) (by decide)) K
    · exact lw_18 h h0 (B 1 (by decide) (by decide)) (B 2 (by decide) (by decide)) K
    · exact lw_19 h h0 (B 1 (by decide) (by decide)) (B 2 (by decide) (by decide)) (B 3 (by decide) (by decide)) K
    · exact lw_20 h h0 (B 1 (by decide) (by decide)) (B 2 (by decide) (by decide)) K
    · exact lw_21 h h0  K
    · exact lw_22 h h0 (B 1 (by decide) (by decide)) K
    · exact lw_23 h h0 (B 1 (by decide) (by decide)) K
    · exact lw_24 h h0  K
    · exact lw_25 h h0  K
    · exact lw_26 h h0 (B 1 (by decide) (by decide)) h512 K
    · exact lw_27 h h0  K
    · exact lw_28 h h0 (B 1 (by decide) (by decide)) (B 2 (by decide) (by decide)) K
    · exact lw_29 h h0  K
    · exact lw_30 h h0  K
    · exact lw_31 h h0  K
    · exact lw_32 h h0  K
    · exact lw_33 h h0 (B 1 (by decide) (by decide)) (B 2 (by decide) (by decide)) (B 3 (by decide) (by decide)) K
    · exact lw_34 h h0 (B 1 (by decide) (by decide)) (B 2 (by decide) (by decide)) (B 3 (by decide) (by decide)) (B 4 (by decide) (by decide)) K
    · exact lw_35 h h0 (B 1 (by decide) (by decide)) (B 2 (by decide) (by decide)) K
    · exact lw_36 h h0 (B 1 (by decide) (by decide)) K
    · exact lw_37 h h0 (B 1 (by decide) (by decide)) K
    · exact lw_38 h h0 (B 1 (by decide) (by decide)) K
