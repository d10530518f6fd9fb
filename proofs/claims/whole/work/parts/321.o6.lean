theorem L_mlasts {d : Nat} {n1 : Int} {Q : MV → Wd → Prop} {w : Wd} {s : Nat → Int} (ws : WS s) (es : w 146 = s) :
    ∀ (m K : Nat) (r : Nat → Nat) (w1 : Wd), K ≤ m → Fr [144, 177, 178] w w1 → (∀ i, i ≠ 70 → w1 144 i = w 144 i) → RgP s K r → MdR w1 K r → (∀ w2, Fr [144, 177, 178] w w2 → (∀ i, i ≠ 70 → w2 144 i = w 144 i) → Q (mI (laF s m K r)) w2) → Wp (Cw (d + 4)) cd_M_lasts (1, 0, n1) Q 11 [mR 144, none, none, none] [] w1 := by
  intro m
  induction m with
  | zero =>
    intro K r w1 hK hF o rg c k
    apply M_lasts_144_c11
    rw [c.1]
    exact ⟨fun _ => k w1 hF o, fun z => by exfalso; omega⟩
  | succ m ih =>
    intro K r w1 hK hF o rg c k
    have K8 := rg.K8
    have e1 : w1 146 = s := by rw [hF 146 (by decide)]; exact es
    have eL : laF s (m + 1) K r = if K < 2 then -1 else @ite _ (cloP s K r) (Classical.propDecidable _) (if fiK (gaF s K r K) K = K then meF r K else laF s m (fiK (gaF s K r K) K) (fiQ r (gaF s K r K) K)) (-1) := rfl
    apply M_lasts_144_c11
    rw [c.1]
    refine ⟨fun z => ?_, fun z => ?_⟩
    · rw [if_pos (by omega)] at eL
      have k1 := k w1 hF o
      rw [eL] at k1; exact k1
    · have K2 : ¬ K < 2 := by omega
      rw [if_neg K2] at eL
      refine S_goesRound (d := d + 3) ws e1 rg (by omega) c (fun cl => ?_) (fun cl => ?_)
      · rw [if_pos cl] at eL
        refine ⟨_, rfl, fun q => absurd q (by decide), fun _ => ?_⟩
        refine S_gain0 (d := d) ws e1 rg (by omega) c ?_
        intro f hf
        generalize hG : gaF s K r K = g at *
        have lp : ∀ (t i : Nat) (x : Int) (w2 : Wd), i + t = K → Fr [144, 177, 178] w w2 → (∀ i, i ≠ 70 → w2 144 i = w 144 i) → w2 144 70 = K → EqK K (w2 178) g → (∀ j, j < fiK g i → w2 177 j = fiQ r g i j) → (∀ j, i ≤ j → j < K → w2 177 j = r j) → (fiK g i = i → x = meF r i) → Wp (Cw (d + 4)) cd_M_lasts (1, 0, n1) Q 26 [mR 144, mI (fiK g i : Nat), mI x, mI i] [] w2 := by
          intro t
          induction t with
          | zero =>
            intro i x w2 hi hF2 o2 h70 h178 h1 h2 hx
            have : i = K := by omega
            subst this
            have le := fiK_le g i
            apply M_lasts_144_c26
            rw [h70]
            refine ⟨fun _ => ⟨fun q => ?_, fun q => ?_⟩, fun z => absurd (Int.le_refl _) z⟩
            · have nk : ¬ fiK g i = i := by omega
              rw [if_neg nk] at eL
              have rg2 := fiQ_rg rg g
              refine ih (fiK g i) (fiQ r g i) _ (by omega) (Fr.ub hF2 (by decide)) (fun j hj => ?_) rg2 ⟨?_, fun j hj => ?_⟩ (fun w3 hF3 o3 => by rw [← eL]; exact k w3 hF3 o3)
              · rw [ub_ap, if_pos rfl, if_neg hj]; exact o2 j hj
              · rw [ub_ap, if_pos rfl, if_pos rfl]
              · show w2 177 j = _
                exact h1 j hj
            · have yk : fiK g i = i := by omega
              rw [if_pos yk] at eL
              have k1 := k w2 hF2 o2
              rw [eL, ← hx yk] at k1; exact k1
          | succ t iht =>
            intro i x w2 hi hF2 o2 h70 h178 h1 h2 hx
            have le := fiK_le g i
            have a1 := h2 i (Nat.le_refl _) (by omega)
            have b1 := (rg.lt i (by omega)).1
            have ei := h178 i (by omega)
            have ek : fiK g (i + 1) = fiK g i + (if 0 ≤ g i then 1 else 0) := rfl
            have eq : fiQ r g (i + 1) = if 0 ≤ g i then upN (fiQ r g i) (fiK g i) (r i) else fiQ r g i := rfl
            have rs : (up1 (w2 177) (fiK g i) (r i : Int)) i = r i := by
              rw [up1_ap]
              by_cases q : i = fiK g i
              · rw [if_pos q]
              · rw [if_neg q]; exact a1
            apply M_lasts_144_c26
            rw [h70, Int.toNat_natCast, Int.toNat_natCast, ei, a1, rs, ixs (k := i) (by omega), ixs (k := fiK g i) (by omega)]
            refine ⟨fun z => by exfalso; omega, fun _ => ⟨by omega, fun z0 => ⟨by omega, by omega, by omega, ?_⟩, fun z0 => ?_⟩⟩
            · rw [if_pos z0] at ek eq
              have i1 := iht (i + 1) (ior x (ishl 1 (r i : Int))) (ub w2 177 (fiK g i) (r i : Int)) (by omega) (Fr.ub hF2 (by decide)) o2 h70 h178 (fun j hj => ?_) (fun j h1' h2' => ?_) (fun hk => ?_)
              · rw [ek] at i1; exact i1
              · rw [ek] at hj
                show up1 (w2 177) (fiK g i) (r i : Int) j = _
                rw [eq, up1_ap, upN_ap]
                by_cases q : j = fiK g i
                · rw [if_pos q, if_pos q]
                · rw [if_neg q, if_neg q]; exact h1 j (by omega)
              · show up1 (w2 177) (fiK g i) (r i : Int) j = _
                rw [up1_ap, if_neg (by omega)]; exact h2 j (by omega) h2'
              · rw [ek] at hk
                rw [hx (by omega)]
                rfl
            · rw [if_neg z0] at ek eq
              have i1 := iht (i + 1) x w2 (by omega) hF2 o2 h70 h178 (fun j hj => ?_) (fun j h1' h2' => h2 j (by omega) h2') (fun hk => ?_)
              · rw [ek, Nat.add_zero] at i1; exact i1
              · rw [ek, Nat.add_zero] at hj
                rw [eq]; exact h1 j hj
              · rw [ek] at hk
                exfalso; omega
        exact lp K 0 0 (ubf w1 178 f) (by omega) (Fr.ubf hF (by decide)) o c.1 (by rw [ubf_self]; exact hf) (fun j hj => absurd hj (Nat.not_lt_zero _)) (fun j _ hj => c.2 j hj) (fun _ => rfl)
      · rw [if_neg cl] at eL
        have k1 := k w1 hF o
        rw [eL] at k1
        exact ⟨_, rfl, fun _ => k1, fun q => absurd rfl q⟩
theorem P_lasts {d : Nat} {w : Wd} (h : Inv w) : Pair (d + 30) 141 262 [] w := by
  unfold Pair
  have hl := h.tape.len
  have lo := h.tape.lo
  have hi := h.tape.hi
  obtain ⟨B, hB⟩ := Int.eq_ofNat_of_zero_le lo
  have e01 : w 0 1 = B := by rw [hl, hB]
  apply X_lasts_0_en
  intro n1
  rw [e01]
  have ref : ∀ (w3 : Wd) (val : Int), Fr [0, 137, 138, 139] w w3 → w3 0 = up1 (w 0) 1 0 → (¬ (2 ≤ B ∧ B ≤ 8 ∧ tkP (w 146) (w 1) B) → val = -2) → (2 ≤ B ∧ B ≤ 8 ∧ tkP (w 146) (w 1) B → val = laF (w 146) 9 B (fun i => (w 1 i).toNat)) → Cw (d + 30) 262 [mR 144] w3 (Post w val) := by
    intro w3 val hF e0 x2 x0
    have e144 : w3 144 = w 144 := hF 144 (by decide)
    have hF' : Fr ([0, 140, 143] ++ scrR) w w3 := Fr.tr (Fr.rfl' _ w) hF (by decide)
    have h140 : w3 140 = w 140 := hF 140 (by decide)
    apply M_lasts_144_en
    intro n2
    rw [show w3 144 2 = w 144 2 from by rw [e144]]
    have e146 : (ub (ub (ub (ub (ub w3 144 0 0) 144 3 (w 144 2)) 144 2 0) 144 4 0) 144 5 1040) 146 = w 146 := hF 146 (by decide)
    have e145 : (ub (ub (ub (ub (ub w3 144 0 0) 144 3 (w 144 2)) 144 2 0) 144 4 0) 144 5 1040) 145 = w 145 := hF 145 (by decide)
    have e3 : (ub (ub (ub (ub (ub w3 144 0 0) 144 3 (w 144 2)) 144 2 0) 144 4 0) 144 5 1040) 144 3 = B := by
      show up1 (up1 (up1 (up1 (up1 (w3 144) 0 0) 3 (w 144 2)) 2 0) 4 0) 5 1040 3 = _
      simp (decide := true) only [up1_ap, if_true, if_false]
      exact hB
    have stay : ∀ w5, Fr [144, 177, 178] (ub (ub (ub (ub (ub w3 144 0 0) 144 3 (w 144 2)) 144 2 0) 144 4 0) 144 5 1040) w5 → (∀ i, i ≠ 70 → w5 144 i = (ub (ub (ub (ub (ub w3 144 0 0) 144 3 (w 144 2)) 144 2 0) 144 4 0) 144 5 1040) 144 i) → Inv w5 ∧ w5 401 = w 401 ∧ w5 400 = w 400 := by
      intro w5 f5 o5
      obtain ⟨F, rt, y2, y12, y144, y140⟩ := S_mtaken h [] hF' e144 (by rw [e0, up1_ap, if_pos rfl]) (by rw [e0, up1_ap, if_neg (by decide)]) (by rw [e0, up1_ap, if_neg (by decide)]) f5 o5 (fun i _ => by rw [h140])
      have e143 : w5 143 = w 143 := by rw [f5 143 (by decide), ub_ne _ _ (by decide), ub_ne _ _ (by decide), ub_ne _ _ (by decide), ub_ne _ _ (by decide), ub_ne _ _ (by decide)]; exact hF 143 (by decide)
      have e140 : w5 140 5 = w 140 5 := by rw [f5 140 (by decide), ub_ne _ _ (by decide), ub_ne _ _ (by decide), ub_ne _ _ (by decide), ub_ne _ _ (by decide), ub_ne _ _ (by decide), h140]
      have e179 : w5 179 = w 179 := by rw [f5 179 (by decide), ub_ne _ _ (by decide), ub_ne _ _ (by decide), ub_ne _ _ (by decide), ub_ne _ _ (by decide), ub_ne _ _ (by decide)]; exact hF 179 (by decide)
      refine ⟨Inv.g_ring h F (fun i hi => ?_) y140 (fun i hi => ?_) rt ?_ ?_, F 401 (by decide), F 400 (by decide)⟩
      · simp only [List.mem_cons, List.not_mem_nil, or_false] at hi
        rcases hi with z | z <;> subst z
        · exact y2
        · exact y12
      · simp only [List.mem_cons, List.not_mem_nil, or_false] at hi
        exact y144 i (by simp only [List.mem_cons, List.not_mem_nil, or_false]; omega)
      · rw [e140, y144 71 (by decide)]; exact h.gainers
      · rw [y144 71 (by decide), e143, e179]; exact h.gained
    refine S_isRing (d := d + 26) (w := ub (ub (ub (ub (ub w3 144 0 0) 144 3 (w 144 2)) 144 2 0) 144 4 0) 144 5 1040) h.ws e146 (t := w 1) (fun i hi => by rw [e145]; exact h.tape.oct i hi) B e3 ?_ ?_
    · intro w5 f5 o5 B2 B8 tk h70 h177
      refine ⟨_, rfl, fun _ => ?_, fun q => absurd (show ¬ (1 : Int) = 0 by decide) q⟩
      obtain ⟨rg, et⟩ := tkP_rg h.ws.pe.2 B8 tk
      have c : MdR w5 B (fun i => (w 1 i).toNat) := ⟨h70, fun i hi => by rw [h177 i hi]; exact et i hi⟩
      refine L_mlasts (d := d + 25) h.ws e146 9 B (fun i => (w 1 i).toNat) w5 (by omega) (Fr.tr (Fr.rfl' _ _) f5 (by decide)) o5 rg c ?_
      intro w6 F6 o6
      obtain ⟨i1, i2, i3⟩ := stay w6 F6 o6
      exact Post.k (x0 ⟨B2, B8, tk⟩).symm i1 i2 i3
    · intro w5 f5 o5 no
      obtain ⟨i1, i2, i3⟩ := stay w5 (Fr.tr (Fr.rfl' _ _) f5 (by decide)) o5
      exact ⟨_, rfl, fun q => absurd rfl q, fun _ => Post.k (x2 no).symm i1 i2 i3⟩
  have rv0 : RV ((ub w 0 1 0) 4) ((ub w 0 1 0) 5) ((ub w 0 1 0) 6) ((ub w 0 1 0) 7) ((ub w 0 1 0) 8) ((ub w 0 1 0) 9) ((ub w 0 1 0) 10) ((ub w 0 1 0) 11) ((ub w 0 1 0) 12) ((ub w 0 1 0) 13) ((ub w 0 1 0) 14) ((ub w 0 1 0) 15) (w 146) (w 149) := h.rv
  refine S_take (d := d + 27) (w := ub w 0 1 0) rv0 h.ws B (by omega) ?_ ?_
  · intro w1 F1 B2 B8 tk h2 h138
    have tk : tkP (w 146) (w 1) B := tk
    have h138 : ∀ i, i < B → w1 138 i = w 1 i := h138
    obtain ⟨rg, et⟩ := tkP_rg h.ws.pe.2 B8 tk
    have c : ClR w1 B (fun i => (w 1 i).toNat) := ⟨h2, fun i hi => by rw [h138 i hi]; exact et i hi⟩
    have f0 : w1 0 = up1 (w 0) 1 0 := by rw [F1 0 (by decide), ub_self]
    refine ⟨_, rfl, fun _ => ?_, fun q => absurd (show ¬ (1 : Int) = 0 by decide) q⟩
    refine L_lasts (d := d + 22) (w := ub w 0 1 0) rv0 h.ws 9 B (fun i => (w 1 i).toNat) w1 (by omega) (by omega) (Fr.tr (Fr.rfl' _ _) F1 (by decide)) rg c ?_
    intro w2 F2
    (apply Mid.k)
    exact ref w2 _ (Fr.tr (Fr.ub (Fr.rfl' _ w) (by decide)) F2 (by decide)) (by rw [F2 0 (by decide), ub_self]) (fun no => absurd ⟨B2, B8, tk⟩ no) (fun _ => rfl)
  · intro w1 F1 no
    have no : ¬ (2 ≤ B ∧ B ≤ 8 ∧ tkP (w 146) (w 1) B) := no
    refine ⟨_, rfl, fun q => absurd rfl q, fun _ => ?_⟩
    (apply Mid.k)
    exact ref w1 _ (Fr.tr (Fr.ub (Fr.rfl' _ w) (by decide)) F1 (by decide)) (by rw [F1 0 (by decide), ub_self]) (fun _ => rfl) (fun yes => absurd yes no)
