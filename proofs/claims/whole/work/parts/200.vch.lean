def cndB (c : Jvm.ClassFile.Cond) (a b : Int) : Bool := match c with
  | .eq => decide (a = b)
  | .ne => decide (¬ a = b)
  | .lt => decide (a < b)
  | .ge => decide (b ≤ a)
  | .gt => decide (b < a)
  | .le => decide (a ≤ b)
theorem cnd_iff (c : Jvm.ClassFile.Cond) (a b : Int) : cndP c a b ↔ cndB c a b = true := by cases c <;> simp [cndP, cndB]
theorem cn_yes {c : Jvm.ClassFile.Cond} {a b : Int} (h : cndB c a b = true) : cndP c a b := (cnd_iff c a b).mpr h
theorem cn_no {c : Jvm.ClassFile.Cond} {a b : Int} (h : cndB c a b = false) : ¬ cndP c a b := fun q => by rw [(cnd_iff c a b).mp q] at h; cases h
theorem Wp.fgd {d : Nat} {cd : List Ent} {pr : Pr} {Q : MV → Wd → Prop} {i : Nat} {l l' s : List MV} {w : Wd} (hle : leA l l') (h : Wp (Cw d) cd pr Q i l s w) : Wp (Cw d) cd pr Q i l' s w := Wp.fg (fun j a w Q Q' => Cw_mono d j a w Q Q') hle h
theorem Cw.vv {d j : Nat} {a : List MV} {w : Wd} {P : Wd → Prop} {Qc : MV → Wd → Prop} (h : Cw d j a w (fun _ w' => P w')) (k : ∀ w', P w' → ∀ v, Qc v w') : Cw d j a w Qc := Cw_mono _ _ _ _ _ _ (fun v w' q => k w' q v) h
theorem Cw.ii {d j : Nat} {a : List MV} {w : Wd} {P : Int → Wd → Prop} {Qc : MV → Wd → Prop} (h : Cw d j a w (fun r w' => ∃ x : Int, r = mI x ∧ P x w')) (k : ∀ x w', P x w' → Qc (mI x) w') : Cw d j a w Qc := Cw_mono _ _ _ _ _ _ (fun _ w' q => by obtain ⟨x, rfl, q⟩ := q; exact k x w' q) h
theorem Cw.ll {d j : Nat} {a : List MV} {w : Wd} {P : Int → Wd → Prop} {Qc : MV → Wd → Prop} (h : Cw d j a w (fun r w' => ∃ x : Int, r = mL x ∧ P x w')) (k : ∀ x w', P x w' → Qc (mL x) w') : Cw d j a w Qc := Cw_mono _ _ _ _ _ _ (fun _ w' q => by obtain ⟨x, rfl, q⟩ := q; exact k x w' q) h
theorem Cw.rr {d j g : Nat} {a : List MV} {w : Wd} {P : Wd → Prop} {Qc : MV → Wd → Prop} (h : Cw d j a w (fun r w' => r = mR g ∧ P w')) (k : ∀ w', P w' → Qc (mR g) w') : Cw d j a w Qc := Cw_mono _ _ _ _ _ _ (fun _ w' q => by obtain ⟨rfl, q⟩ := q; exact k w' q) h
