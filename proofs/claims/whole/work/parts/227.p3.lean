theorem P_giving {d : Nat} {w : Wd} (h : Inv w) (x y z : Int) : Pair (d + 3) 50 205 [mI x, mI y, mI z] w := by
  have k0 : Inv (ub w 144 0 0) := (Inv.mk h.tape h.fault h.ws h.wp h.wb h.rv h.rp h.rb h.im0 h.im1 h.stale h.told h.wat h.hands h.hand h.askers h.asked h.gainers h.gained h.mid h.star h.done h.day h.shown h.words h.reserved)
  have e := h.rv.people
  have p := h.ws.pe
  unfold Pair
  apply X_giving_0_en
  (repeat' (apply spl <;> intro))
  all_goals try (((try simp (disch := (unfold in32; omega)) only [w32_id] at *); (try simp (disch := (unfold in32; omega)) only [w32_id] at *)); (refine And.intro (by omega) ?_); (repeat' (apply spl <;> intro)))
  all_goals first
    | (apply Mid.k)
    | ((refine And.intro (by omega) ?_); (apply Mid.k))
  all_goals apply M_giving_144_en
  all_goals (repeat' (apply spl <;> intro))
  all_goals first
    | exact Post.k rfl k0 rfl rfl
    | (exfalso; omega)
    | (exfalso; ((try simp (disch := (unfold in32; omega)) only [w32_id] at *); (try simp (disch := (unfold in32; omega)) only [w32_id] at *)); omega)
    | (((try simp (disch := (unfold in32; omega)) only [w32_id] at *); (try simp (disch := (unfold in32; omega)) only [w32_id] at *))
       refine ⟨by omega, ?_⟩
       have ei : ∀ k : Int, 0 ≤ k → (k + 8 * x + y).toNat = k.toNat + (x * 8 + y).toNat := fun k hk => by omega
       have t := h.ws.told (x * 8 + y).toNat (by omega)
       have g1 := h.rv.told (x * 8 + y).toNat (by omega)
       have g2 := h.rv.untold (x * 8 + y).toNat (by omega)
       have g3 := h.ws.pai (x * 8 + y).toNat (by omega)
       rw [ei 269 (by omega), ei 205 (by omega), ei 141 (by omega)]
       simp only [show Int.toNat 269 = 269 from rfl, show Int.toNat 205 = 205 from rfl, show Int.toNat 141 = 141 from rfl]
       rcases t with t | t
       · have g2 := g2 t
         (repeat' (apply spl <;> intro))
         all_goals first
           | exact Post.k rfl k0 rfl rfl
           | (exfalso; omega)
       · have g1 := g1 t
         (repeat' (apply spl <;> intro))
         all_goals first
           | (exfalso; omega)
           | exact Post.k rfl k0 rfl rfl
           | ((refine And.intro (by omega) ?_); exact Post.k g1.1.symm k0 rfl rfl)
           | ((refine And.intro (by omega) ?_); exact Post.k g1.2.symm k0 rfl rfl))
