theorem WS.ex {s t : Nat → Int} (e : ∀ i : Nat, i < 333 → t i = s i) (h : WS s) : WS t := by
  have h1 := h.pe
  have h2 := h.so
  have h3 := h.un
  have h4 := h.wa
  have e0 := e 0 (by omega)
  have e1 := e 1 (by omega)
  have e2 := e 2 (by omega)
  have e3 := e 3 (by omega)
  exact (WS.mk (by rw [e0]; exact h1) (by rw [e1]; exact h2) (by rw [e2]; exact h3) (by rw [e3]; exact h4) (by rw [e 4 (by omega)]; exact h.la) (by rw [e 5 (by omega)]; exact h.ba) (fun p hp => by rw [e _ (by omega)]; exact h.town p hp) (fun p hp => by rw [e _ (by omega)]; exact h.ask p hp) (fun k hk => by rw [e1] at hk; rw [e _ (by omega)]; exact h.life k hk) (fun u hu => by rw [e2] at hu; rw [e _ (by omega), e1]; exact h.usort u hu) (fun u hu => by rw [e2] at hu; rw [e _ (by omega), e0]; exact h.mak u hu) (fun u hu => by rw [e2] at hu; rw [e (32 + 5 * u) (by omega), e (31 + 5 * u) (by omega), e0]; exact h.par u hu) (fun u hu => by rw [e2] at hu; rw [e _ (by omega)]; exact h.uhour u hu) (fun u v huv hv => by rw [e2] at hv; rw [e _ (by omega), e _ (by omega)]; exact h.line u v huv hv) (fun u v huv hv => by rw [e2] at hv; simp (disch := omega) only [e]; exact h.same u v huv hv) (fun u hu => by rw [e3] at hu; rw [e _ (by omega), e0]; exact h.wwho u hu) (fun u hu => by rw [e3] at hu; rw [e _ (by omega), e1]; exact h.wsort u hu) (fun u hu => by rw [e3] at hu; rw [e _ (by omega)]; exact h.worth u hu) (fun u hu => by rw [e3] at hu; rw [e _ (by omega)]; exact h.wby u hu) (fun k hk => by rw [e _ (by omega)]; exact h.told k hk) (fun a b ha hb => by rw [e _ (by omega), e0]; exact h.tin a b ha hb) (fun k hk => by rw [e _ (by omega)]; exact h.pai k hk) (fun k hk => by rw [e _ (by omega)]; exact h.hou k hk))
theorem WP.ex {s t : Nat → Int} (e : ∀ i : Nat, i < 484 → t i = s i) (h : WP s) : WP t := by
  have h1 := h.acts
  have e3 := e 333 (by omega)
  exact (WP.mk (by rw [e3]; exact h1) (fun i hi => by rw [e3] at hi; rw [e _ (by omega)]; exact h.what i hi) (fun i hi => by rw [e3] at hi; rw [e _ (by omega), e _ (by omega)]; exact h.wait i hi) (fun i hi => by rw [e3] at hi; rw [e _ (by omega), e _ (by omega), e 2 (by omega)]; exact h.unit i hi) (fun i hi => by rw [e3] at hi; rw [e _ (by omega), e _ (by omega), e 0 (by omega)]; exact h.whom i hi))
theorem cntN_ext {s t : Nat → Int} (u : Int) : ∀ n : Nat, (∀ i : Nat, i < n → t (485 + 4 * i) = s (485 + 4 * i)) → cntN t u n = cntN s u n
  | 0, _ => rfl
  | n + 1, e => by unfold cntN; rw [cntN_ext u n (fun i hi => e i (by omega)), e n (by omega)]
theorem WB.ext {s t : Nat → Int} (e : ∀ i : Nat, i < 645 → t i = s i) (h : WB s) : WB t := by
  have h1 := h.notes
  have e3 := e 484 (by omega)
  exact (WB.mk (by rw [e3]; exact h1) (fun i hi => by rw [e3] at hi; rw [e _ (by omega), e 2 (by omega)]; exact h.unit i hi) (fun i hi => by rw [e3] at hi; rw [e _ (by omega), e 0 (by omega)]; exact h.from' i hi) (fun i hi => by rw [e3] at hi; rw [e _ (by omega), e 0 (by omega)]; exact h.to i hi) (fun i hi => by rw [e3] at hi; rw [e _ (by omega)]; exact h.hour i hi) (fun u => by rw [e3, cntN_ext u _ (fun i hi => e _ (by omega))]; exact h.eight u))
theorem RV.ex {ob nm tw mt ak sn lv un ld wn pn hr s t names names' : Nat → Int} (e : ∀ i : Nat, i < 333 → t i = s i) (en : ∀ i : Nat, i < 14 → names' i = names i) (ws : WS s) (h : RV ob nm tw mt ak sn lv un ld wn pn hr s names) : RV ob nm tw mt ak sn lv un ld wn pn hr t names' := by
  have h1 := ws.pe
  have h2 := ws.so
  have h3 := ws.un
  have h4 := ws.wa
  have e0 := e 0 (by omega)
  have e1 := e 1 (by omega)
  have e2 := e 2 (by omega)
  have e3 := e 3 (by omega)
  exact (RV.mk (by rw [e0, h.people]) (by rw [e1, h.sorts]) (by rw [e2, h.units]) (by rw [e3, h.wants]) (by rw [e 4 (by omega), h.n]) (by rw [e 5 (by omega), h.back]) (fun p hp => by rw [e0] at hp; rw [e _ (by omega), h.towns p hp]) (fun p q hp => by
      rw [e0] at hp; rw [h.mates p q hp, e0, e _ (by omega)]
      by_cases hq : (q : Int) < s 0
      · rw [e _ (by omega)]
      · simp [hq]) (fun p hp => by rw [e0] at hp; rw [e _ (by omega), h.asks p hp]) (fun p hp => by rw [e1] at hp; rw [e _ (by omega), h.lives p hp]) (fun u hu => by rw [e2] at hu; rw [e _ (by omega), h.usort u hu]) (fun u hu => by rw [e2] at hu; rw [e _ (by omega), h.mak u hu]) (fun u hu => by rw [e2] at hu; rw [e _ (by omega), h.par u hu]) (fun u hu => by rw [e2] at hu; rw [e _ (by omega), h.uhour u hu]) (fun u hu => by
      rw [e2] at hu
      have := ws.usort u hu
      rw [e _ (by omega), e (30 + 5 * u) (by omega), e (23 + (s (30 + 5 * u)).toNat) (by omega), h.spo u hu]) (fun u hu => by
      rw [e2] at hu
      have := h.lead u hu
      rw [e _ (by omega), e _ (by omega)]
      refine ⟨this.1, this.2.1, this.2.2.1, fun v hv => ?_⟩
      rw [e _ (by omega)]
      exact this.2.2.2 v hv) (fun i hi => by rw [e3] at hi; rw [e _ (by omega), h.want i hi]) (fun k hk ht => by rw [e _ (by omega)] at ht; rw [e _ (by omega), e _ (by omega)]; exact h.told k hk ht) (fun k hk ht => by rw [e _ (by omega)] at ht; exact h.untold k hk ht) (fun p hp => by rw [e0] at hp; rw [en _ (by omega)]; exact h.pnames p hp) (fun p hp => by rw [e1] at hp; rw [en _ (by omega)]; exact h.snames p hp))
theorem RP.ex {ob wt ut wm s t : Nat → Int} (e : ∀ i : Nat, i < 484 → t i = s i) (ws : WP s) (h : RP ob wt ut wm s) : RP ob wt ut wm t := by
  have h1 := ws.acts
  have e3 := e 333 (by omega)
  exact (RP.mk (by rw [e3, h.acts]) (fun i hi => by rw [e3] at hi; rw [e _ (by omega), h.what i hi]) (fun i hi => by rw [e3] at hi; rw [e _ (by omega), h.unit i hi]) (fun i hi => by rw [e3] at hi; rw [e _ (by omega), h.whom i hi]))
theorem RB.ext {ob ut fr to hr s t : Nat → Int} (e : ∀ i : Nat, i < 645 → t i = s i) (ws : WB s) (h : RB ob ut fr to hr s) : RB ob ut fr to hr t := by
  have h1 := ws.notes
  have e3 := e 484 (by omega)
  exact (RB.mk (by rw [e3, h.notes]) (fun i hi => by rw [e3] at hi; rw [e _ (by omega), h.unit i hi]) (fun i hi => by rw [e3] at hi; rw [e _ (by omega), h.from' i hi]) (fun i hi => by rw [e3] at hi; rw [e _ (by omega), h.to i hi]) (fun i hi => by rw [e3] at hi; rw [e _ (by omega), h.hour i hi]))
theorem WS.ext {s t : Nat → Int} (e : ∀ i : Nat, i < 645 → t i = s i) (h : WS s) : WS t := WS.ex (fun i hi => e i (by omega)) h
theorem WP.ext {s t : Nat → Int} (e : ∀ i : Nat, i < 645 → t i = s i) (h : WP s) : WP t := WP.ex (fun i hi => e i (by omega)) h
theorem RV.ext {ob nm tw mt ak sn lv un ld wn pn hr s t names names' : Nat → Int} (e : ∀ i : Nat, i < 645 → t i = s i) (en : ∀ i : Nat, i < 14 → names' i = names i) (ws : WS s) (h : RV ob nm tw mt ak sn lv un ld wn pn hr s names) : RV ob nm tw mt ak sn lv un ld wn pn hr t names' := RV.ex (fun i hi => e i (by omega)) en ws h
theorem RP.ext {ob wt ut wm s t : Nat → Int} (e : ∀ i : Nat, i < 645 → t i = s i) (ws : WP s) (h : RP ob wt ut wm s) : RP ob wt ut wm t := RP.ex (fun i hi => e i (by omega)) ws h
