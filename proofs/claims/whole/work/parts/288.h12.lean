theorem P_mend {d : Nat} {w : Wd} (h : Inv w) : Pair (d + 30) 148 265 [] w := by
  unfold Pair
  apply X_mend_0_en
  intro n1
  refine S_asTold_0 (d := d + 13) h ?_
  intro w1 h1 z fr f0
  refine ⟨rfl, ?_⟩
  have un := h1.ws.un
  have wa := h1.ws.wa
  have pe := h1.ws.pe
  obtain ⟨t1, ⟨D, d1, d2, d3⟩, t3, t4, t5⟩ := h1.told z
  refine S_matched_92 (d := d + 27) (w := w1) (w1 146 3).toNat (by omega) (by rw [h1.rv.wants]; omega) D (fun v hv => d1 v (by omega)) (w1 146 2).toNat (by omega) d2 ?_
  intro v g hv hm
  have hm2 := IsMost.congr (adjS_bit d3) hm
  clear t1 t3 t4 t5 d1 d2 d3 hm
  refine ⟨_, rfl, ?_⟩
  have h2 : Inv (ubf w1 109 g) := Inv.scr h1 (Fr.ubf (Fr.rfl' _ _) (by decide)) (fun i hi => rfl)
  have b1 : (ubf w1 109 g) 401 = w 401 := fr 401 (by decide)
  have b0 : (ubf w1 109 g) 400 = w 400 := fr 400 (by decide)
  have bs : (ubf w1 109 g) 146 = w1 146 := rfl
  rw [← bs] at hm2 un wa pe
  clear bs f0 fr z
  generalize ubf w1 109 g = wb at h2 b1 b0 hm2 un wa pe ⊢
  have u16 : (wb 146 2).toNat ≤ 16 := by omega
  have W8 : (wb 146 3).toNat ≤ 8 := by omega
  have wu : wb 146 2 = ((wb 146 2).toNat : Int) := by omega
  have ww : wb 146 3 = ((wb 146 3).toNat : Int) := by omega
  refine S_try (d := d + 26) h2 ?_
  intro w3 tc
  refine L_mend11 (d := d) (n1 := n1) (w := wb) h2.ws h2.rv.people h2.rv.wants v ?_ (wb 146 0).toNat 0 w3 (by omega) ⟨Fr.tr (Fr.rfl' _ _) tc.fr (by decide), ?_, tc.rv, tc.ct, tc.t7⟩
  · intro w4 ms
    (apply Mid.k)
    have e4 : w4 146 = wb 146 := ms.fr 146 (by decide)
    have fr4 : Fr ([113] ++ scrR) wb w4 := Fr.tr (Fr.rfl' _ _) ms.fr (by decide)
    apply M_mend_144_en
    intro n2
    refine S_refT (d := d + 28) (w := wb) (w3 := ub w4 144 0 0) h2.ws e4 ?_
    intro w5 hF5 i5 law rt
    have fr5 : Fr ([113] ++ scrR) wb w5 := Fr.tr (Fr.ub fr4 (by decide)) hF5 (by decide)
    refine S_refW2 (d := d + 24) (w := wb) (w4 := w5) (T := TmS (wb 146)) h2.ws (TmB_told h2.ws) (fr5 146 (by decide)) law rt ?_
    intro w6 hK rf
    have fr6 : Fr ([113] ++ scrR) wb w6 := Fr.tr fr5 hK.1 (by decide)
    have e6 : w6 146 = wb 146 := fr6 146 (by decide)
    refine S_mostMet (d := d + 26) (w := w6) (wb 146 2).toNat (wb 146 3).toNat u16 W8 (by rw [e6]; exact wu) (by rw [e6]; exact ww) (adjS (TmS (wb 146)) (wb 146)) (fun u v hu hv => RfD.ha rf u v hu hv) ?_
    intro v' g' hm'
    have ev : v = v' := hm2.uniq hm'
    subst ev
    refine ⟨_, rfl, ?_⟩
    refine L_m14 (d := d) (n1 := n2) (w := wb) h2.ws v ?_ (wb 146 0).toNat 0 (ubf w6 165 g') (by omega) ⟨Fr.ubf fr6 (by decide), ?_, fun i hi => ?_, TmS (wb 146), TmE_rfl _, TmB_told h2.ws, ?_, ?_⟩
    · intro w7 rs
      refine Post.k rfl (Inv.g_trial h2 rs.1 (fun i hi => ?_) rs.2.2.1) ((rs.1 401 (by decide)).trans b1) ((rs.1 400 (by decide)).trans b0)
      simp only [List.mem_cons, List.not_mem_nil, or_false] at hi
      rw [hi, rs.2.1, h2.wat.2]
    · show w6 113 2 = -1
      rw [hK.1 113 (by decide), hF5 113 (by decide)]
      exact ms.at1
    · have hi2 := hi
      simp only [List.mem_cons, List.not_mem_nil, or_false] at hi2
      show w6 144 i = _
      rw [hK.2 i (by omega) (by omega) (by omega), i5 i hi]
      show up1 (w4 144) 0 0 i = _
      rw [up1_ap, if_neg (by omega), ms.fr 144 (by decide)]
    · show w6 144 25 = _
      rw [hK.2 25 (by decide) (by decide) (by decide)]
      exact law
    · show RfT (w6 144) (wb 146) (w6 151) (w6 152) (w6 153) (w6 154) (TmS (wb 146))
      rw [hK.1 151 (by decide), hK.1 152 (by decide), hK.1 153 (by decide), hK.1 154 (by decide)]
      exact RfT_o rt (hK.2 26 (by decide) (by decide) (by decide)) (hK.2 27 (by decide) (by decide) (by decide))
  · rw [tc.fr 113 (by decide)]
    exact h2.wat.2
