theorem S_waysX {d : Nat} {Q : MV → Wd → Prop} {w : Wd} (h : Inv w) (u v n : Nat) (hu : (u : Int) < w 146 2) (hv : (v : Int) < w 146 3) (n2 : 2 ≤ n) (n6 : n ≤ 6)
    (k : ∀ w2, Fr ([113] ++ scrR) w w2 → w2 113 2 = -1 → w2 144 = w 144 → Q (mI (accC (hitS (TmO (w 146) n (TmS (w 146)).back) (w 146) u v) (rowsO (TmO (w 146) n (TmS (w 146)).back) (w 146) u) : Nat)) w2) :
    Cw (d + 29) 117 [mR 0] w (fun r v7 => r = mR 112 ∧ Cw (d + 29) 59 [mR 113, mI (u : Int)] (ub v7 114 1 (n : Int)) (fun _ v9 => (0 ≤ (v : Int) ∧ (v : Int) < 8) ∧ Q (mI (v9 120 (v : Int).toNat)) v9)) := by
  have un := h.ws.un
  have wa := h.ws.wa
  have v8 : 0 ≤ (v : Int) ∧ (v : Int) < 8 := by omega
  have vW : v < (w 146 3).toNat := by omega
  have uU : u < (w 146 2).toNat := by omega
  have eU : w 146 2 = ((w 146 2).toNat : Int) := by omega
  have eW : w 146 3 = ((w 146 3).toNat : Int) := by omega
  refine S_try (d := d + 26) h ?_
  intro w1 tc
  have f : ∀ c, c ∉ [114, 115, 116, 117] → w1 c = w c := fun c hc => tc.fr c hc
  have a1 : w1 113 2 = -1 := by rw [f 113 (by decide)]; exact h.wat.2
  have ct0 := tc.ct
  have ct : CtT (w1 4) (w1 7) (up1 (w1 114) 1 n) (w1 115) (w1 116) (w1 117) (-1) (TmO (w 146) n (TmS (w 146)).back) := by
    refine (CtT.mk (ct0.P) (ct0.P8) ?_ (n2) (n6) ?_ (ct0.back3) (fun q hq => ?_) (fun p q hp hq => ?_) (ct0.pn) (ct0.ak) (ct0.mates) (ct0.pn9) (ct0.hr9) (ct0.ak9) (ct0.wt0))
    · rw [up1_ap, if_pos rfl]; rfl
    · rw [up1_ap, if_neg (by decide)]; exact ct0.back
    · rw [up1_ap, if_neg (by decide)]; exact ct0.hands q hq
    · rw [up1_ap, if_neg (by decide)]; exact ct0.gv p q hp hq
  refine S_walkUnit_113 (d := d + 16) (w := ub w1 114 1 (n : Int)) tc.rv h.ws (T := TmO (w 146) n (TmS (w 146)).back) (by show CtT _ _ _ _ _ _ (w1 113 2) _; rw [a1]; exact ct) (w 146 2).toNat (w 146 3).toNat u eU eW uU ?_
  intro w2 hF h93 _ hw _
  refine ⟨v8, ?_⟩
  rw [Int.toNat_natCast, hw.2.1 v vW]
  refine k w2 (Fr.tr (Fr.ub (Fr.tr (Fr.rfl' _ w) tc.fr (by decide)) (by decide)) hF (by decide)) ?_ ?_
  · rw [h93 2 (by decide) (by decide) (by decide) (by decide)]
    exact a1
  · rw [hF 144 (by decide)]
    show w1 144 = w 144
    exact f 144 (by decide)
