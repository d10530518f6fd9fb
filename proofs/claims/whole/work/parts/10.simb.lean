set_option maxHeartbeats 4000000 in
theorem put_go {p : Program} {l : Launch} {e : Env} {R : Room} {s : State} {m : MethodId} {args : Array Value} {below : List Frame} {meth : Method} {c : Code} {Z : State → Prop} {D : va_G} {κ : Nat → ClassId} {A : Nat → Prop} {cc : ByteArray} {own nm : String} {cd : List Ent} {pr : Pr} {mx n0 : Nat} {w0 : Wd} {ρ0 ρ : Nat → Nat} {n h j ci i pc idx : Nat} {x : Int} {v : Value} {w : Wd} {H : Heap} {locs : List Loc} {ls : Array Slot} {l9 s9 : List MV} {C : String} {T : u_T} {N : Nat}
    (hFr : Fr p s m args meth c cc own nm mx) (hK : va_K D vwCl (tysO κ) s) (hR : Rl D κ A s.heap ρ n w H locs) (hE : Ex pr n0 w0 ρ0 ρ n w) (hh : h < n) (hk : kd h = ci) (hC : vwCl[ci]? = some (C, T, N)) (hj : j < N)
    (hlink : (Jvm.Cond.fieldLink own idx (T j).1 (T j).2.1 (T j).2.2.1) ∈ wsB) (hfin : fldF own nm ci j = true) (hval : fvl ρ h (up1 (w h) j x) j = v) (hnar : narrow (tyOf T j) v = v) (hfit : fits (tyOf T j) v = true)
    (hok : okW n (ub w h j x)) (hall : n = 186 → allSet (ub w h j x)) (hdec : decode cc pc = .ok (.putfield idx, 3)) (hpc : pcOf cd i = pc + 3)
    (hF : PP p l e R s m args below meth c Z D κ A cd pr mx n0 w0 ρ0 i l9 s9 (ub w h j x)) (hl : ∀ v ∈ l9, okV n v) (hs : ∀ v ∈ s9, okV n v) (hL : LocR ρ ls mx l9) :
    W p l e R s m args below meth c H locs (cN n0 w0 n w) (sN n0 w0 n w) Z (F0 m pc ls (v :: .ref (ρ h) :: s9.map (toV ρ))) := by
  obtain ⟨hx, hb, hml, hown, hts, hin, hnest, hAO⟩ := id hFr
  obtain ⟨hP, hD, hS, hok0, hn, hn0, hall0⟩ := id hR
  have hci : ci < 13 := cl_lt hC
  have h186 : h < 186 := by omega
  obtain ⟨C', T', hC', hsz⟩ := sz_cl h186 (by omega)
  rw [hk, hC] at hC'
  cases hC'
  have he : (wsO κ ρ w n)[h]? = some (ρ h, .inr (ci, (List.range (szI h).toNat).map (fvl ρ h (w h)))) := by rw [wsO_at hh, celE_obj (by omega), hk]
  have hset : (wsO κ ρ w n).set h (ρ h, .inr (ci, ((List.range (szI h).toNat).map (fvl ρ h (w h))).set j v)) = wsO κ ρ (ub w h j x) n := by
    rw [← hval, map_set x hj, ub_ubf, ← wsO_set hh, celE_obj (by omega), hk]
  have hty := fun k (hk9 : k < (szI h).toNat) => (cl_ty hC hk9).1
  have hkk : ∀ (H1 : Heap) (locs1 : List Loc), va_P D vwCl ((wsO κ ρ w n).set h (ρ h, .inr (ci, ((List.range (szI h).toNat).map (fvl ρ h (w h))).set j v))) H1 → va_D A ((wsO κ ρ w n).set h (ρ h, .inr (ci, ((List.range (szI h).toNat).map (fvl ρ h (w h))).set j v))) → va_S A s.heap H1 locs1 → W p l e R s m args below meth c H1 locs1 (cN n0 w0 n w) (sN n0 w0 n w) Z (F0 m (pc + 3) ls (s9.map (toV ρ))) := by
    intro H1 locs1 hP1 hD1 hS1
    rw [hset] at hP1 hD1
    rw [← hpc]
    exact PP.store (f := up1 (w h) j x) hF hh hn hE hn0 hall hok hP1 hD1 hS1 hl hs hL
  unfold fldF at hfin
  rw [hC] at hfin
  dsimp only at hfin
  by_cases hf : (T j).2.2.2 = true
  · rw [if_pos hf] at hfin
    simp only [Bool.and_eq_true, decide_eq_true_eq] at hfin
    exact va_putF hx hb hts (lay_in hC) (tyOf T) hty (cl_names hC) hown hK hP hD hS h he hC j hj (hts _ hlink) (fun _ h9 => h9) hf (hin hfin.2) hfin.1 (hty j hj) hnar hfit (by simpa using hj) hdec hkk
  · exact va_put hx hb hts (lay_in hC) (tyOf T) hty (cl_names hC) hown hK hP hD hS h he hC j hj (hts _ hlink) (fun _ h9 => h9) (by simpa using hf) (hty j hj) hnar hfit (by simpa using hj) hdec hkk
theorem fvl_num {ρ : Nat → Nat} {h j : Nat} {f : Nat → Int} {x : Int} (h2 : ¬ fty (kd h) j = 2) (h1 : ¬ fty (kd h) j = 1) : fvl ρ h (up1 f j x) j = .int (Int32.ofInt x) := by
  unfold fvl; rw [if_neg h2, if_neg h1, up1_self]
theorem fvl_lng {ρ : Nat → Nat} {h j : Nat} {f : Nat → Int} {x : Int} (h1 : fty (kd h) j = 1) : fvl ρ h (up1 f j x) j = .long (Int64.ofInt x) := by
  unfold fvl; rw [if_neg (by omega), if_pos h1, up1_self]
theorem fvl_ref {ρ : Nat → Nat} {h j : Nat} {f : Nat → Int} (h1 : fty (kd h) j = 2) : fvl ρ h (up1 f j 1) j = .ref (ρ (gr h j)) := by
  unfold fvl; rw [if_pos h1, up1_self, if_neg (by decide)]
theorem alen_lt {w : Wd} {h : Nat} (hh : h < 186) : alen w h = szI h := by unfold alen; rw [if_neg (by omega)]
/-- a cell more -/
theorem mkNew_hi {w : Wd} {g : Nat} (h0 : ¬ g = (w 401 0).toNat) (h1 : ¬ g = 401) : mkNew w g = w g := by
  unfold mkNew
  rw [ub_ne _ _ h1]
  unfold zr
  rw [if_neg h0]
theorem mkNew_at {w : Wd} {n : Nat} (hn : w 401 0 = (n : Int)) (hl : n < 401) : mkNew w n = fun _ => 0 := by
  unfold mkNew
  rw [ub_ne _ _ (by omega)]
  unfold zr
  rw [if_pos (by rw [hn]; rfl)]
theorem mkNew_c {w : Wd} {n : Nat} (hn : w 401 0 = (n : Int)) (hl : n < 401) (j : Nat) : mkNew w 401 j = if j = 0 then (n : Int) + 1 else w 401 j := by
  unfold mkNew
  rw [ub_self]
  unfold up1 zr
  rw [hn]
  have h1 : ¬ (401 : Nat) = (n : Int).toNat := by simp; omega
  rw [if_neg h1]
theorem celE_zero {κ : Nat → ClassId} {ρ ρ' : Nat → Nat} {h : Nat} : celE κ ρ h (fun _ => 0) = celE κ ρ' h (fun _ => 0) := by
  have := celE_agree (κ := κ) (ρ := ρ') (ρ' := ρ) (h := h) (n := 0) (f := fun _ => 0) (fun g hg => absurd hg (Nat.not_lt_zero _)) (fun j _ q => absurd rfl q)
  exact this
theorem wsO_push {κ : Nat → ClassId} {ρ : Nat → Nat} {w : Wd} {n q : Nat} (hn : w 401 0 = (n : Int)) (hl : n < 186) (ho : okW n w) :
    wsO κ (fun h => if h = n then q else ρ h) (mkNew w) (n + 1) = wsO κ ρ w n ++ [(q, celE κ ρ n (fun _ => 0))] := by
  apply List.ext_getElem?
  intro k
  by_cases hk : k < n
  · rw [List.getElem?_append_left (by simpa [wsO] using hk), wsO_at (by omega), wsO_at hk]
    rw [if_neg (by omega), mkNew_hi (by rw [hn]; simp; omega) (by omega)]
    rw [celE_agree (ρ := ρ) (n := n) (fun g hg => if_neg (by omega)) (fun j q1 q2 => (ho k j hk).2 q1 q2)]
  · by_cases hk2 : k = n
    · subst hk2
      rw [List.getElem?_append_right (by simp [wsO]), wsO_at (by omega), if_pos rfl, mkNew_at hn (by omega)]
      simp [wsO]
      exact celE_zero
    · rw [List.getElem?_eq_none (by simp [wsO]; omega), List.getElem?_eq_none (by simp [wsO]; omega)]
theorem Ex.new {pr : Pr} {n0 : Nat} {w0 : Wd} {ρ0 ρ : Nat → Nat} {n q : Nat} {w : Wd} (hE : Ex pr n0 w0 ρ0 ρ n w) (hn : w 401 0 = (n : Int)) (hl : n < 186) (h1 : 0 < pr.2.1) (h2 : w 401 0 < pr.2.2) : Ex pr n0 w0 ρ0 (fun h => if h = n then q else ρ h) (n + 1) (mkNew w) := by
  obtain ⟨e1, e2, e3, e4, e5, e6, e7, e8, e9, e10⟩ := hE
  have c1 : mkNew w 401 1 = w 401 1 := by rw [mkNew_c hn (by omega), if_neg (by decide)]
  have c2 : mkNew w 401 2 = w 401 2 := by rw [mkNew_c hn (by omega), if_neg (by decide)]
  have c3 : mkNew w 400 = w 400 := mkNew_hi (by rw [hn]; simp; omega) (by decide)
  refine ⟨by omega, fun h hh => ?_, ?_, by rw [c3]; exact e4, by rw [c2]; exact e5, by rw [c1]; exact e6, fun q => by rw [c1]; exact e7 q, fun q => by omega, fun q => ?_, fun q => by rw [c1]; exact e10 q⟩
  · show (if h = n then q else ρ h) = _
    rw [if_neg (by omega)]; exact e2 h hh
  · show (if 400 = n then q else ρ 400) = _
    rw [if_neg (by omega)]; exact e3
  · rw [hn] at h2; push_cast; omega
theorem cN_new {n0 n : Nat} {w0 w : Wd} (hn : w 401 0 = (n : Int)) (hl : n < 186) (h0 : n0 ≤ n) : cN n0 w0 (n + 1) (mkNew w) = cN n0 w0 n w + 1 := by
  unfold cN; rw [mkNew_c hn (by omega), if_neg (by decide)]; omega
theorem sN_new {n0 n : Nat} {w0 w : Wd} (hn : w 401 0 = (n : Int)) (hl : n < 186) (h0 : n0 ≤ n) : sN n0 w0 (n + 1) (mkNew w) = sN n0 w0 n w + (szI n).toNat := by
  unfold sN; rw [mkNew_c hn (by omega), if_neg (by decide)]
  have := SL_mono n0 n h0
  show SL n + (szI n).toNat - SL n0 + _ = _
  omega
theorem okW.new {n : Nat} {w : Wd} (ho : okW n w) (hn : w 401 0 = (n : Int)) (hl : n < 186) : okW (n + 1) (mkNew w) := by
  intro h j hh
  by_cases q : h = n
  · subst q
    rw [mkNew_at hn (by omega)]
    refine ⟨?_, fun _ q => absurd rfl q⟩
    have := in32_0
    have := in32_64 in32_0
    split <;> assumption
  · rw [mkNew_hi (by rw [hn]; simp; omega) (by omega)]
    have h1 := ho h j (by omega)
    exact ⟨h1.1, fun q1 q2 => Nat.lt_succ_of_lt (h1.2 q1 q2)⟩
theorem allSet.new {w : Wd} {n : Nat} (ha : allSet w) (hn : w 401 0 = (n : Int)) (hk : ∀ j, ¬ rfC n j) : allSet (mkNew w) := by
  intro q hq
  have h1 := ref_is hq
  have hne : ¬ q.1 = n := fun e => hk q.2 (by rw [← e]; exact h1.2)
  rw [mkNew_hi (by rw [hn]; exact hne) (by omega)]
  exact ha q hq
theorem kd_185 : kd 185 = 21 := rfl
