set_option maxHeartbeats 4000000 in
theorem put_go {p : Program} {l : Launch} {e : Env} {R : Room} {s : State} {m : MethodId} {args : Array Value} {below : List Frame} {meth : Method} {c : Code} {Z : State → Prop} {D : va_G} {κ : Nat → ClassId} {A : Nat → Prop} {cc : ByteArray} {own nm : String} {cd : List Ent} {pr : Pr} {mx n0 : Nat} {w0 : Wd} {ρ0 ρ : Nat → Nat} {n h j ci i pc idx : Nat} {x : Int} {v : Value} {w : Wd} {H : Heap} {locs : List Loc} {ls : Array Slot} {l9 s9 : List MV} {C : String} {T : u_T} {N : Nat}
    (hFr : FrJ p s m args meth c cc own nm mx) (hK : va_K D vwCl (tysO κ) s) (hR : Rl D κ A s.heap ρ n w H locs) (hE : Ex pr n0 w0 ρ0 ρ n w) (hh : h < n) (hk : kd h = ci) (hC : vwCl[ci]? = some (C, T, N)) (hj : j < N)
    (hlink : (Jvm.Cond.fieldLink own idx (T j).1 (T j).2.1 (T j).2.2.1) ∈ wsB) (hfin : fldF own nm ci j = true) (hval : fvl ρ h (up1 (w h) j x) j = v) (hnar : narrow (tyOf T j) v = v) (hfit : fits (tyOf T j) v = true)
    (hok : okW n (ub w h j x)) (hall : n = 186 → allSet (ub w h j x)) (hdec : decode cc pc = .ok (.putfield idx, 3)) (hpc : pcOf cd i = pc + 3)
    (hF : PP p l e R s m args below meth c Z D κ A cd pr mx n0 w0 ρ0 i l9 s9 (ub w h j x)) (hl : ∀ v ∈ l9, okV n v) (hs : ∀ v ∈ s9, okV n v) (hL : LocR ρ ls mx l9) :
    W p l e R s m args below meth c H locs (cN n0 w0 n w) (sN n0 w0 n w) Z (F0 m pc ls (v :: .ref (ρ h) :: s9.map (toV ρ))) := by
  obtain ⟨hx, hb, hml, hown, hts, hin, hnest, hAO⟩ := id hFr
  obtain ⟨hP, hD, hS, hok0, hn, hn0, hall0⟩ := id hR
  have hci : ci < 13 := cl_lt hC
  have h186 : h < 186 := by omega
  obtain ⟨C', T', hC', hsz⟩ := sz_cl h186 (by omega)
  rw [hk, hC] at hC'
  cases hC'
  have he : (wsO κ ρ w n)[h]? = some (ρ h, .inr (ci, (List.range (szI h).toNat).map (fvl ρ h (w h)))) := by rw [wsO_at hh, celE_obj (by omega), hk]
  have hset : (wsO κ ρ w n).set h (ρ h, .inr (ci, ((List.range (szI h).toNat).map (fvl ρ h (w h))).set j v)) = wsO κ ρ (ub w h j x) n := by
    rw [← hval, map_set x hj, ub_ubf, ← wsO_set hh, celE_obj (by omega), hk]
  have hty := fun k (hk9 : k < (szI h).toNat) => (cl_ty hC hk9).1
  have hkk : ∀ (H1 : Heap) (locs1 : List Loc), va_P D vwCl ((wsO κ ρ w n).set h (ρ h, .inr (ci, ((List.range (szI h).toNat).map (fvl ρ h (w h))).set j v))) H1 → va_D A ((wsO κ ρ w n).set h (ρ h, .inr (ci, ((List.range (szI h).toNat).map (fvl ρ h (w h))).set j v))) → va_S A s.heap H1 locs1 → W p l e R s m args below meth c H1 locs1 (cN n0 w0 n w) (sN n0 w0 n w) Z (F0 m (pc + 3) ls (s9.map (toV ρ))) := by
    intro H1 locs1 hP1 hD1 hS1
    rw [hset] at hP1 hD1
    rw [← hpc]
    exact PP.store (f := up1 (w h) j x) hF hh hn hE hn0 hall hok hP1 hD1 hS1 hl hs hL
  unfold fldF at hfin
  rw [hC] at hfin
  dsimp only at hfin
  by_cases hf : (T j).2.2.2 = true
  · rw [if_pos hf] at hfin
    simp only [Bool.and_eq_true, decide_eq_true_eq] at hfin
    exact va_putF hx hb hts (lay_in hC) (tyOf T) hty (cl_names hC) hown hK hP hD hS h he hC j hj (hts _ hlink) (fun _ h9 => h9) hf (hin hfin.2) hfin.1 (hty j hj) hnar hfit (by simpa using hj) hdec hkk
  · exact va_put hx hb hts (lay_in hC) (tyOf T) hty (cl_names hC) hown hK hP hD hS h he hC j hj (hts _ hlink) (fun _ h9 => h9) (by simpa using hf) (hty j hj) hnar hfit (by simpa using hj) hdec hkk
theorem fvl_num {ρ : Nat → Nat} {h j : Nat} {f : Nat → Int} {x : Int} (h2 : ¬ fty (kd h) j = 2) (h1 : ¬ fty (kd h) j = 1) : fvl ρ h (up1 f j x) j = .int (Int32.ofInt x) := by
  unfold fvl; rw [if_neg h2, if_neg h1, up1_self]
theorem fvl_lng {ρ : Nat → Nat} {h j : Nat} {f : Nat → Int} {x : Int} (h1 : fty (kd h) j = 1) : fvl ρ h (up1 f j x) j = .long (Int64.ofInt x) := by
  unfold fvl; rw [if_neg (by omega), if_pos h1, up1_self]
theorem fvl_ref {ρ : Nat → Nat} {h j : Nat} {f : Nat → Int} (h1 : fty (kd h) j = 2) : fvl ρ h (up1 f j 1) j = .ref (ρ (gr h j)) := by
  unfold fvl; rw [if_pos h1, up1_self, if_neg (by decide)]
theorem alen_lt {w : Wd} {h : Nat} (hh : h < 186) : alen w h = szI h := by unfold alen; rw [if_neg (by omega)]
/-- a cell more -/
theorem mkNew_hi {w : Wd} {g : Nat} (h0 : ¬ g = (w 401 0).toNat) (h1 : ¬ g = 401) : mkNew w g = w g := by
  unfold mkNew
  rw [ub_ne _ _ h1]
  unfold zr
  rw [if_neg h0]
theorem mkNew_at {w : Wd} {n : Nat} (hn : w 401 0 = (n : Int)) (hl : n < 401) : mkNew w n = fun _ => 0 := by
  unfold mkNew
  rw [ub_ne _ _ (by omega)]
  unfold zr
  rw [if_pos (by rw [hn]; rfl)]
theorem mkNew_c {w : Wd} {n : Nat} (hn : w 401 0 = (n : Int)) (hl : n < 401) (j : Nat) : mkNew w 401 j = if j = 0 then (n : Int) + 1 else w 401 j := by
  unfold mkNew
  rw [ub_self]
  unfold up1 zr
  rw [hn]
  have h1 : ¬ (401 : Nat) = (n : Int).toNat := by simp; omega
  rw [if_neg h1]
theorem celE_zero {κ : Nat → ClassId} {ρ ρ' : Nat → Nat} {h : Nat} : celE κ ρ h (fun _ => 0) = celE κ ρ' h (fun _ => 0) := by
  have := celE_agree (κ := κ) (ρ := ρ') (ρ' := ρ) (h := h) (n := 0) (f := fun _ => 0) (fun g hg => absurd hg (Nat.not_lt_zero _)) (fun j _ q => absurd rfl q)
  exact this
theorem wsO_push {κ : Nat → ClassId} {ρ : Nat → Nat} {w : Wd} {n q : Nat} (hn : w 401 0 = (n : Int)) (hl : n < 186) (ho : okW n w) :
    wsO κ (fun h => if h = n then q else ρ h) (mkNew w) (n + 1) = wsO κ ρ w n ++ [(q, celE κ ρ n (fun _ => 0))] := by
  apply List.ext_getElem?
  intro k
  by_cases hk : k < n
  · rw [List.getElem?_append_left (by simpa [wsO] using hk), wsO_at (by omega), wsO_at hk]
    rw [if_neg (by omega), mkNew_hi (by rw [hn]; simp; omega) (by omega)]
    rw [celE_agree (ρ := ρ) (n := n) (fun g hg => if_neg (by omega)) (fun j q1 q2 => (ho k j hk).2 q1 q2)]
  · by_cases hk2 : k = n
    · subst hk2
      rw [List.getElem?_append_right (by simp [wsO]), wsO_at (by omega), if_pos rfl, mkNew_at hn (by omega)]
      simp [wsO]
      exact celE_zero
    · rw [List.getElem?_eq_none (by simp [wsO]; omega), List.getElem?_eq_none (by simp [wsO]; omega)]
theorem Ex.new {pr : Pr} {n0 : Nat} {w0 : Wd} {ρ0 ρ : Nat → Nat} {n q : Nat} {w : Wd} (hE : Ex pr n0 w0 ρ0 ρ n w) (hn : w 401 0 = (n : Int)) (hl : n < 186) (h1 : 0 < pr.2.1) (h2 : w 401 0 < pr.2.2) : Ex pr n0 w0 ρ0 (fun h => if h = n then q else ρ h) (n + 1) (mkNew w) := by
  obtain ⟨e1, e2, e3, e4, e5, e6, e7, e8, e9, e10⟩ := hE
  have c1 : mkNew w 401 1 = w 401 1 := by rw [mkNew_c hn (by omega), if_neg (by decide)]
  have c2 : mkNew w 401 2 = w 401 2 := by rw [mkNew_c hn (by omega), if_neg (by decide)]
  have c3 : mkNew w 400 = w 400 := mkNew_hi (by rw [hn]; simp; omega) (by decide)
  refine ⟨by omega, fun h hh => ?_, ?_, by rw [c3]; exact e4, by rw [c2]; exact e5, by rw [c1]; exact e6, fun q => by rw [c1]; exact e7 q, fun q => by omega, fun q => ?_, fun q => by rw [c1]; exact e10 q⟩
  · show (if h = n then q else ρ h) = _
    rw [if_neg (by omega)]; exact e2 h hh
  · show (if 400 = n then q else ρ 400) = _
    rw [if_neg (by omega)]; exact e3
  · rw [hn] at h2; push_cast; omega
theorem cN_new {n0 n : Nat} {w0 w : Wd} (hn : w 401 0 = (n : Int)) (hl : n < 186) (h0 : n0 ≤ n) : cN n0 w0 (n + 1) (mkNew w) = cN n0 w0 n w + 1 := by
  unfold cN; rw [mkNew_c hn (by omega), if_neg (by decide)]; omega
theorem sN_new {n0 n : Nat} {w0 w : Wd} (hn : w 401 0 = (n : Int)) (hl : n < 186) (h0 : n0 ≤ n) : sN n0 w0 (n + 1) (mkNew w) = sN n0 w0 n w + (szI n).toNat := by
  unfold sN; rw [mkNew_c hn (by omega), if_neg (by decide)]
  have := SL_mono n0 n h0
  show SL n + (szI n).toNat - SL n0 + _ = _
  omega
theorem okW.new {n : Nat} {w : Wd} (ho : okW n w) (hn : w 401 0 = (n : Int)) (hl : n < 186) : okW (n + 1) (mkNew w) := by
  intro h j hh
  by_cases q : h = n
  · subst q
    rw [mkNew_at hn (by omega)]
    refine ⟨?_, fun _ q => absurd rfl q⟩
    have := in32_0
    have := in32_64 in32_0
    split <;> assumption
  · rw [mkNew_hi (by rw [hn]; simp; omega) (by omega)]
    have h1 := ho h j (by omega)
    exact ⟨h1.1, fun q1 q2 => Nat.lt_succ_of_lt (h1.2 q1 q2)⟩
theorem allSet.new {w : Wd} {n : Nat} (ha : allSet w) (hn : w 401 0 = (n : Int)) (hk : ∀ j, ¬ rfC n j) : allSet (mkNew w) := by
  intro q hq
  have h1 := ref_is hq
  have hne : ¬ q.1 = n := fun e => hk q.2 (by rw [← e]; exact h1.2)
  rw [mkNew_hi (by rw [hn]; exact hne) (by omega)]
  exact ha q hq
theorem kd_185 : kd 185 = 21 := rfl

/-! calls -/
def AAf (ρ : Nat → Nat) (n sz : Nat) : Nat → Prop := fun q => (∃ h, h < n ∧ q = ρ h) ∨ sz ≤ q
def retO (ρ : Nat → Nat) (v : MV) : Option Value := match v with
  | none => none
  | some x => some (toV ρ (some x))
/-- what lies below the address b stays: facts of the start that a method may ask for -/
def EvOK (EV : State → Prop) (b : Nat) : Prop := ∀ s U : State, EV s → (∀ q : Nat, q < b → U.heap[q]? = s.heap[q]?) → s.WarmedH U.vm → EV U
def PreU (EV : State → Prop) (b : Nat) (D : va_G) (κ : Nat → ClassId) (ρ : Nat → Nat) (n : Nat) (w : Wd) (sz : Nat) : State → Prop := fun U =>
  (EV U ∧ b ≤ sz ∧ ∀ h, h < n → b ≤ ρ h) ∧ U.heap.size = sz ∧ va_P D vwCl (wsO κ ρ w n) U.heap ∧ va_K D vwCl (tysO κ) U ∧ va_D (fun _ => True) (wsO κ ρ w n) ∧ (∀ x ∈ nestL, va_Nw x U) ∧ va_AO RX2 U
def QcU (D : va_G) (κ : Nat → ClassId) (ρ : Nat → Nat) (n : Nat) (w : Wd) (sz rk k : Nat) (Qc : MV → Wd → Prop) : Array Value → State → Outcome → State → Prop := fun _ st o t =>
  (∃ (v : MV) (ρ' : Nat → Nat) (w' : Wd), o = .returned (retO ρ' v) ∧ Qc v w' ∧ okV (n + k) v ∧ (rk = 0 ↔ v = none) ∧ (∀ g, g < n → ρ' g = ρ g) ∧ ρ' 400 = ρ 400 ∧ va_P D vwCl (wsO κ ρ' w' (n + k)) t.heap ∧ va_K D vwCl (tysO κ) t ∧ va_D (AAf ρ n sz) (wsO κ ρ' w' (n + k)) ∧ okW (n + k) w' ∧ w' 401 0 = ((n + k : Nat) : Int) ∧ (n + k = 186 → allSet w') ∧ w' 400 = w 400 ∧ w' 401 1 = w 401 1 ∧ w' 401 2 = w 401 2) ∧ va_F (AAf ρ n sz) st t
def wsM (j : Nat) : List Jvm.Cond := Jvm.Cond.code (yM j) (bM j) (mxM j) (rtM j) :: wsB
def CallH (l : Launch) (EV : State → Prop) (b : Nat) (D : va_G) (κ : Nat → ClassId) (R : Room) (cw : CWt) : Prop := ∀ (j : Nat) (argv : List MV) (w : Wd) (Qc : MV → Wd → Prop), j < 279 → cw j argv w Qc → ∀ (ρ : Nat → Nat) (n sz : Nat), okW n w → n + nAl j ≤ 186 → w 401 0 = (n : Int) → (n = 186 → allSet w) → (phM j = 0 → n = 186) → (∀ v ∈ argv, okV n v) → b ≤ sz → (∀ h, h < n → b ≤ ρ h) →
  ∃ rm : Room, rm.cells = nAl j ∧ rm.slots = SL (n + nAl j) - SL n ∧ rm.frames + 1 ≤ R.frames ∧ rm.locals + 60 ≤ R.locals ∧ Met l (yM j) (wsM j) rm (va_Pc (argv.map (toV ρ)) (PreU EV b D κ ρ n w sz)) (QcU D κ ρ n w sz (rkM j) (nAl j) Qc) (nAl j) (SL (n + nAl j) - SL n) (AAf ρ n sz)
theorem nthA_le {b : Nat} : ∀ (l : List Nat) (j : Nat), (∀ x ∈ l, x ≤ b) → nthA 0 l j ≤ b
  | [], _, _ => by simp [nthA]
  | a :: _, 0, h => h a List.mem_cons_self
  | _ :: t, j + 1, h => nthA_le t j (fun x q => h x (List.mem_cons_of_mem _ q))
theorem mx_le (j : Nat) : mxM j ≤ 20 := nthA_le _ _ (by decide +kernel)
theorem ph_al {j : Nat} (h : ¬ phM j = 1) : nAl j = 0 := by
  by_cases hj : j < 283
  · have h1 : ∀ j, j < 283 → ¬ phM j = 1 → nAl j = 0 := by decide +kernel
    exact h1 j hj h
  · unfold nAl
    exact nthA_out _ _ (by have : nAlL.length = 283 := by decide +kernel
                           omega)
set_option maxRecDepth 100000 in
set_option maxHeartbeats 4000000 in
theorem code_ok0 : (List.range 31).map (fun j => some (Jvm.Cond.code (yM (0 + j)) (bM (0 + j)) (mxM (0 + j)) (rtM (0 + j)))) = ([1030, 1038, 1127, 1230, 2020, 2050, 2082, 2126, 2187, 2223, 3036, 3057, 3144, 3148, 3152, 3156, 3160, 3164, 3171, 3174, 3177, 3181, 3185, 3189, 3193, 3197, 3201, 3205, 3209, 3214, 3218] : List Nat).map (fun q => (segW (q / 1000))[q % 1000]?) := rfl
set_option maxRecDepth 100000 in
set_option maxHeartbeats 4000000 in
theorem code_ok31 : (List.range 31).map (fun j => some (Jvm.Cond.code (yM (31 + j)) (bM (31 + j)) (mxM (31 + j)) (rtM (31 + j)))) = ([3222, 3226, 3230, 3235, 3239, 4003, 4007, 4011, 4015, 4019, 4023, 4027, 4031, 4035, 4039, 4043, 4047, 4050, 4058, 4062, 4066, 4070, 4074, 4078, 4082, 4086, 4091, 4095, 4099, 4103, 4107] : List Nat).map (fun q => (segW (q / 1000))[q % 1000]?) := rfl
set_option maxRecDepth 100000 in
set_option maxHeartbeats 4000000 in
theorem code_ok62 : (List.range 31).map (fun j => some (Jvm.Cond.code (yM (62 + j)) (bM (62 + j)) (mxM (62 + j)) (rtM (62 + j)))) = ([4113, 4117, 4126, 4130, 4136, 4140, 4144, 4148, 4153, 4157, 4162, 4166, 4170, 4180, 4184, 4188, 4192, 4196, 4205, 4210, 4213, 4217, 4221, 4227, 4231, 4235, 4239, 5010, 5014, 5018, 5022] : List Nat).map (fun q => (segW (q / 1000))[q % 1000]?) := rfl
set_option maxRecDepth 100000 in
set_option maxHeartbeats 4000000 in
theorem code_ok93 : (List.range 31).map (fun j => some (Jvm.Cond.code (yM (93 + j)) (bM (93 + j)) (mxM (93 + j)) (rtM (93 + j)))) = ([5026, 5030, 5034, 5039, 5044, 5048, 5052, 5061, 5068, 5073, 5077, 5081, 5086, 5090, 5094, 5099, 5103, 5107, 5114, 5118, 5123, 5127, 5131, 5135, 5139, 5144, 5149, 5153, 5157, 5161, 5165] : List Nat).map (fun q => (segW (q / 1000))[q % 1000]?) := rfl
set_option maxRecDepth 100000 in
set_option maxHeartbeats 4000000 in
theorem code_ok124 : (List.range 31).map (fun j => some (Jvm.Cond.code (yM (124 + j)) (bM (124 + j)) (mxM (124 + j)) (rtM (124 + j)))) = ([5169, 5174, 5178, 5182, 5186, 5190, 5196, 5200, 5204, 5208, 5212, 5217, 5222, 5228, 5232, 5237, 6001, 6005, 6009, 6013, 6017, 6021, 6025, 6029, 6033, 6037, 6041, 6045, 6050, 6054, 6059] : List Nat).map (fun q => (segW (q / 1000))[q % 1000]?) := rfl
set_option maxRecDepth 100000 in
set_option maxHeartbeats 4000000 in
theorem code_ok155 : (List.range 31).map (fun j => some (Jvm.Cond.code (yM (155 + j)) (bM (155 + j)) (mxM (155 + j)) (rtM (155 + j)))) = ([6063, 6067, 6071, 6075, 6079, 6083, 6087, 6092, 6099, 6103, 6107, 6112, 6116, 6210, 6214, 6219, 6223, 6227, 8011, 8015, 8019, 8023, 8026, 8029, 8033, 8037, 8041, 8045, 8049, 8053, 8057] : List Nat).map (fun q => (segW (q / 1000))[q % 1000]?) := rfl
set_option maxRecDepth 100000 in
set_option maxHeartbeats 4000000 in
theorem code_ok186 : (List.range 31).map (fun j => some (Jvm.Cond.code (yM (186 + j)) (bM (186 + j)) (mxM (186 + j)) (rtM (186 + j)))) = ([8061, 8064, 8068, 8072, 8076, 8080, 8084, 8088, 8092, 8096, 8100, 8104, 8108, 8112, 8116, 8120, 8124, 8128, 8132, 8136, 8140, 8144, 8148, 8152, 8156, 8159, 8163, 8168, 8172, 8176, 8180] : List Nat).map (fun q => (segW (q / 1000))[q % 1000]?) := rfl
set_option maxRecDepth 100000 in
set_option maxHeartbeats 4000000 in
theorem code_ok217 : (List.range 31).map (fun j => some (Jvm.Cond.code (yM (217 + j)) (bM (217 + j)) (mxM (217 + j)) (rtM (217 + j)))) = ([8184, 8188, 8192, 8196, 8200, 8204, 8208, 8212, 8215, 8219, 8223, 8227, 8231, 8237, 9001, 9005, 9009, 9013, 9017, 9022, 9026, 9030, 9034, 9038, 9042, 9046, 9050, 9054, 9058, 9062, 9066] : List Nat).map (fun q => (segW (q / 1000))[q % 1000]?) := rfl
set_option maxRecDepth 100000 in
set_option maxHeartbeats 4000000 in
theorem code_ok248 : (List.range 31).map (fun j => some (Jvm.Cond.code (yM (248 + j)) (bM (248 + j)) (mxM (248 + j)) (rtM (248 + j)))) = ([9070, 9074, 9078, 9082, 9086, 9090, 9094, 9098, 9102, 9106, 9110, 9114, 9118, 9122, 9126, 9130, 9134, 9138, 9142, 9146, 9150, 9154, 9158, 9162, 9166, 9170, 9174, 9178, 1131, 4175, 5002] : List Nat).map (fun q => (segW (q / 1000))[q % 1000]?) := rfl
theorem map_at {α : Type} {f : Nat → Option α} {g : Nat → Option α} {n : Nat} {ps : List Nat} (h : (List.range n).map f = ps.map g) {j : Nat} (hj : j < n) : ∃ q, f j = g q := by
  have h1 : ((List.range n).map f)[j]? = some (f j) := by rw [List.getElem?_map, List.getElem?_range hj]; rfl
  rw [h, List.getElem?_map] at h1
  cases e : ps[j]? with
  | none => rw [e] at h1; cases h1
  | some q => rw [e] at h1; exact ⟨q, (Option.some.inj h1).symm⟩
theorem code_in {j : Nat} (hj : j < 279) : Jvm.Cond.code (yM j) (bM j) (mxM j) (rtM j) ∈ wsB := by
  have key : ∀ q : Nat, some (Jvm.Cond.code (yM j) (bM j) (mxM j) (rtM j)) = (segW (q / 1000))[q % 1000]? → Jvm.Cond.code (yM j) (bM j) (mxM j) (rtM j) ∈ wsB := fun q h => List.mem_filter.mpr ⟨seg_in _ _ (List.mem_of_getElem? h.symm), rfl⟩
  by_cases h0 : j < 31
  · obtain ⟨q, hq⟩ := map_at code_ok0 (j := j - 0) (by omega)
    rw [show 0 + (j - 0) = j by omega] at hq
    exact key q hq
  by_cases h31 : j < 62
  · obtain ⟨q, hq⟩ := map_at code_ok31 (j := j - 31) (by omega)
    rw [show 31 + (j - 31) = j by omega] at hq
    exact key q hq
  by_cases h62 : j < 93
  · obtain ⟨q, hq⟩ := map_at code_ok62 (j := j - 62) (by omega)
    rw [show 62 + (j - 62) = j by omega] at hq
    exact key q hq
  by_cases h93 : j < 124
  · obtain ⟨q, hq⟩ := map_at code_ok93 (j := j - 93) (by omega)
    rw [show 93 + (j - 93) = j by omega] at hq
    exact key q hq
  by_cases h124 : j < 155
  · obtain ⟨q, hq⟩ := map_at code_ok124 (j := j - 124) (by omega)
    rw [show 124 + (j - 124) = j by omega] at hq
    exact key q hq
  by_cases h155 : j < 186
  · obtain ⟨q, hq⟩ := map_at code_ok155 (j := j - 155) (by omega)
    rw [show 155 + (j - 155) = j by omega] at hq
    exact key q hq
  by_cases h186 : j < 217
  · obtain ⟨q, hq⟩ := map_at code_ok186 (j := j - 186) (by omega)
    rw [show 186 + (j - 186) = j by omega] at hq
    exact key q hq
  by_cases h217 : j < 248
  · obtain ⟨q, hq⟩ := map_at code_ok217 (j := j - 217) (by omega)
    rw [show 217 + (j - 217) = j by omega] at hq
    exact key q hq
  by_cases h248 : j < 279
  · obtain ⟨q, hq⟩ := map_at code_ok248 (j := j - 248) (by omega)
    rw [show 248 + (j - 248) = j by omega] at hq
    exact key q hq
  · omega
theorem goodB : ∀ w ∈ wsB, (w.onTables && w.keeps) = true ∨ ∃ ty, w = .arrayClass ty := fun w h => good_of_word (List.mem_filter.mp h).2
theorem wsM_good {j : Nat} (hj : j < 279) : GoodIn wsB (wsM j) := fun w hw => (List.mem_cons.mp hw).elim (fun q => by rw [q]; exact ⟨code_in hj, goodB _ (code_in hj)⟩) (fun q => ⟨q, goodB _ q⟩)
theorem good_cons {x : Jvm.Cond} {ws : List Jvm.Cond} (h1 : x ∈ wsB) (h : GoodIn wsB ws) : GoodIn wsB (x :: ws) := fun w hw => (List.mem_cons.mp hw).elim (fun q => by rw [q]; exact ⟨h1, goodB _ h1⟩) (h w)
theorem nest_is {x : Jvm.Cond} (h : x ∈ nestL) : ∃ a i y b, x = .methodLinkNest a i y b := by
  have h1 := (List.mem_filter.mp h).2
  split at h1
  · exact ⟨_, _, _, _, rfl⟩
  · cases h1
theorem PreU.blind {EV : State → Prop} {b : Nat} (hEV : EvOK EV b) {D : va_G} {κ : Nat → ClassId} {ρ : Nat → Nat} {n : Nat} {w : Wd} {sz : Nat} {av : List Value} : FrameBlind (va_Pc av (PreU EV b D κ ρ n w sz)) := by
  intro a U g mk q
  obtain ⟨q0, ⟨z1, z2, z3⟩, q1, q2, q3, q4, q5, q6⟩ := q
  refine ⟨q0, ⟨hEV U (U.calling g mk a) z1 (fun _ _ => rfl) (State.WarmedH.refl U), z2, z3⟩, q1, q2, va_K.moved (u := U) (U := U.calling g mk a) (Vm.Alike.refl U.vm) q3, q4, fun x hx => ?_, va_AO.moved (u := U) (U := U.calling g mk a) (Vm.Alike.refl U.vm) q6⟩
  obtain ⟨a9, i9, y9, b9, rfl⟩ := nest_is hx
  exact va_Nw.same rfl (rfl : U.vm = (U.calling g mk a).vm) (q5 _ hx)
theorem pre_at {EV : State → Prop} {b : Nat} (hEV : EvOK EV b) {D : va_G} {κ : Nat → ClassId} {ρ : Nat → Nat} {n : Nat} {w : Wd} {s : State} {A : Nat → Prop} {H : Heap} (hK : va_K D vwCl (tysO κ) s) (hP : va_P D vwCl (wsO κ ρ w n) H) (hD : va_D A (wsO κ ρ w n)) (hnest : ∀ x ∈ nestL, va_Nw x s) (hAO : va_AO RX2 s) (hEs : EV s) (hbs : b ≤ s.heap.size) (hAb : ∀ q, A q → b ≤ q) {locs : List Loc} (hS : va_S A s.heap H locs) :
    ∀ U : State, U.heap = H → s.WarmedH U.vm → PreU EV b D κ ρ n w H.size U := by
  intro U hU hW
  refine ⟨⟨hEV s U hEs (fun q hq => by rw [hU]; exact hS.2.1 q (Nat.lt_of_lt_of_le hq hbs) (fun z => absurd (hAb q z) (by omega))) hW, Nat.le_trans hbs hS.1, fun h hh => hAb _ (hD.2 h _ (wsO_at hh))⟩, by rw [hU], by rw [hU]; exact hP, va_K.moved hW.alike hK, hD.weaken (fun _ _ _ _ => trivial), fun x hx => ?_, va_AO.moved hW.alike hAO⟩
  obtain ⟨a9, i9, y9, b9, rfl⟩ := nest_is hx
  exact va_Nw.warmM hW (hnest _ hx)
theorem AAf_in {κ : Nat → ClassId} {ρ : Nat → Nat} {n : Nat} {w : Wd} {A : Nat → Prop} {H0 H : Heap} {locs : List Loc} (hD : va_D A (wsO κ ρ w n)) (hS : va_S A H0 H locs) (hA : ∀ q : Nat, H0.size ≤ q → A q) : ∀ q, AAf ρ n H.size q → A q := by
  intro q h
  rcases h with ⟨g, hg, rfl⟩ | h
  · exact hD.2 g _ (wsO_at hg)
  · exact hA q (Nat.le_trans hS.1 h)
theorem call_go {p : Program} {l : Launch} {e : Env} {R : Room} {s : State} {m : MethodId} {args : Array Value} {below : List Frame} {meth : Method} {c : Code} {Z : State → Prop} {D : va_G} {κ : Nat → ClassId} {A : Nat → Prop} {cd : List Ent} {pr : Pr} {mx n0 : Nat} {w0 : Wd} {ρ0 ρ : Nat → Nat} {n j i pc : Nat} {w : Wd} {H : Heap} {locs : List Loc} {ls : Array Slot} {l9 rest : List MV} {st0 : List Value} {a : Array Value} {Qc : MV → Wd → Prop}
    (hA : ∀ q : Nat, s.heap.size ≤ q → A q) (hR : Rl D κ A s.heap ρ n w H locs) (hE : Ex pr n0 w0 ρ0 ρ n w)
    (hrun : va_Run p l e R s m args below meth c H locs (cN n0 w0 n w) (sN n0 w0 n w) (nAl j) (SL (n + nAl j) - SL n) (F0 m pc ls st0) (rest.map (toV ρ)) (QcU D κ ρ n w H.size (rkM j) (nAl j) Qc a) (AAf ρ n H.size))
    (hph : nAl j = 0 ∨ (0 < pr.2.1 ∧ w 401 0 + (nAl j : Int) ≤ pr.2.2)) (hn1 : n + nAl j ≤ 186) (hpc : pcOf cd i = pc + 3)
    (hF : ∀ v w', Qc v w' → PP p l e R s m args below meth c Z D κ A cd pr mx n0 w0 ρ0 i l9 (pushR (rkM j) v rest) w') (hl : ∀ v ∈ l9, okV n v) (hs : ∀ v ∈ rest, okV n v) (hL : LocR ρ ls mx l9) :
    W p l e R s m args below meth c H locs (cN n0 w0 n w) (sN n0 w0 n w) Z (F0 m pc ls st0) := by
  obtain ⟨hP, hD, hS, hok, hn, hn0, hall⟩ := id hR
  obtain ⟨e1, e2, e3, e4, e5, e6, e7, e8, e9, e10⟩ := id hE
  intro T hT X
  obtain ⟨v, st₀, t, T', L, h0, X', hLf, h1, h2, ⟨⟨v', ρ', w', hv, hq, hov, hrk, hag, hag4, hP1, hK1, hD1, hok1, hc1, hal1, hw4, hw1, hw2⟩, hz, hk⟩, st⟩ := hrun T hT X
  cases hv
  have hAA := AAf_in hD hS hA
  rw [h0] at hz hk
  have hS' : va_S A s.heap T'.heap (locs ++ L) := by
    refine ⟨Nat.le_trans hS.1 (by rw [h1]; exact hz), fun q g1 g2 => ?_, fun q hq => ?_⟩
    · rw [h1, hk q (Nat.lt_of_lt_of_le g1 hS.1) (fun z => g2 (hAA q z))]
      exact hS.2.1 q g1 g2
    · rcases List.mem_append.mp hq with h | h
      · exact hS.2.2 q h
      · exact hAA _ (hLf q h)
  have hcN : cN n0 w0 (n + nAl j) w' = cN n0 w0 n w + nAl j := by unfold cN; rw [hw1]; omega
  have hsN : sN n0 w0 (n + nAl j) w' = sN n0 w0 n w + (SL (n + nAl j) - SL n) := by
    unfold sN; rw [hw1]
    have := SL_mono n0 n e1
    have := SL_mono n (n + nAl j) (by omega)
    omega
  have hE' : Ex pr n0 w0 ρ0 ρ' (n + nAl j) w' := by
    refine ⟨by omega, fun h hh => by rw [hag h (by omega)]; exact e2 h hh, by rw [hag4]; exact e3, by rw [hw4]; exact e4, by rw [hw2]; exact e5, by rw [hw1]; exact e6, fun q => by rw [hw1]; exact e7 q, fun q => ?_, fun q => ?_, fun q => by rw [hw1]; exact e10 q⟩
    · have := e8 q
      omega
    · rcases hph with z | z
      · have := e9 q
        rw [z]; omega
      · have := z.2
        rw [hn0] at this; push_cast; omega
  have hstk : (retO ρ' v').toList ++ rest.map (toV ρ) = (pushR (rkM j) v' rest).map (toV ρ') := by
    unfold pushR
    by_cases q : rkM j = 0
    · rw [if_pos q, hrk.mp q, map_agree hs hag hag4]; rfl
    · rw [if_neg q, List.map_cons, map_agree hs hag hag4]
      match v', hrk with
      | none, hrk => exact absurd (hrk.mpr rfl) q
      | some x, _ => rfl
  have hokp : ∀ x ∈ pushR (rkM j) v' rest, okV (n + nAl j) x := by
    unfold pushR
    by_cases q : rkM j = 0
    · rw [if_pos q]; exact fun x hx => (hs x hx).mono (by omega)
    · rw [if_neg q]; exact List.forall_mem_cons.mpr ⟨hov, fun x hx => (hs x hx).mono (by omega)⟩
  have hW := hF v' w' hq ρ' (n + nAl j) T'.heap (locs ++ L) ls ⟨by rw [h1]; exact hP1, hD1.weaken (fun k q _ h => hAA _ h), hS', hok1, hn1, hc1, hal1⟩ hE' (fun x hx => (hl x hx).mono (by omega)) hokp (hL.agree hl hag hag4)
  rw [hcN, hsN, hpc, ← hstk] at hW
  obtain ⟨t2, a1, b1⟩ := hW T' rfl X'
  exact ⟨t2, st t2 a1, b1⟩
theorem split_at {s : List MV} {na : Nat} {v : MV} (h : nthA none s na = v) (hv : ¬ v = none) : s = s.take na ++ v :: s.drop (na + 1) ∧ na < s.length := by
  have hlen : na < s.length := by
    by_cases q : na < s.length
    · exact q
    · rw [nthA_out s na (by omega)] at h; exact absurd h.symm hv
  refine ⟨?_, hlen⟩
  have hg : ∀ (s : List MV) (na : Nat), na < s.length → s = s.take na ++ nthA none s na :: s.drop (na + 1) := by
    intro s
    induction s with
    | nil => intro na h; simp at h
    | cons a t ih =>
      intro na h
      cases na with
      | zero => rfl
      | succ na =>
        have := ih na (by simpa using h)
        show a :: t = a :: (t.take na ++ nthA none t na :: t.drop (na + 1))
        rw [← this]
  have := hg s na hlen
  rw [h] at this
  exact this
theorem rcv_is {v : MV} {k : Nat} (h : rcvK v = k) (hk : k < 20) : ∃ g, v = mR g ∧ kd g = k := by
  unfold rcvK at h
  split at h
  · rename_i g
    exact ⟨g, rfl, h⟩
  · omega
theorem yW_ok {y : MethodName} {na : Nat} (h : yW y na = true) : y.cls ≠ "java/lang/invoke/MethodHandle" ∧ y.cls ≠ "java/lang/invoke/VarHandle" ∧ (parseMethodDescriptor y.desc).map (fun d => d.parameters.length) = some na := by
  unfold yW at h
  simp only [Bool.and_eq_true, decide_eq_true_eq] at h
  exact ⟨h.1.1, h.1.2, h.2⟩

theorem take_at : ∀ {s : List MV} {na : Nat} {v : MV}, nthA none s na = v → na < s.length → s.take (na + 1) = s.take na ++ [v]
  | [], _, _, _, h => by simp at h
  | a :: t, 0, v, h, _ => by
    have : a = v := h
    rw [this]; rfl
  | a :: t, na + 1, v, h, hl => by
    show a :: t.take (na + 1) = a :: (t.take na ++ [v])
    rw [take_at (s := t) h (by simpa using hl)]
theorem stk_at {ρ : Nat → Nat} {s : List MV} {na g : Nat} (h : s = s.take na ++ mR g :: s.drop (na + 1)) : (s.take na).map (toV ρ) ++ .ref (ρ g) :: (s.drop (na + 1)).map (toV ρ) = s.map (toV ρ) := by
  have h1 := congrArg (List.map (toV ρ)) h
  rw [List.map_append, List.map_cons] at h1
  exact h1.symm
theorem rt_none {j : Nat} (h : rkM j = 0) : rtM j = none := by
  by_cases hj : j < 283
  · have h1 : ∀ j, j < 283 → rkM j = 0 → rtM j = none := by decide +kernel
    exact h1 j hj h
  · unfold rtM
    exact nthA_out _ _ (by have : rtL.length = 283 := by decide +kernel
                           omega)
