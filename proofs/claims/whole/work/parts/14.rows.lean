/-! ===== rows over the two worlds ===== -/
section TW
variable {cI cT cM : ClassId} {ad : Nat → Nat} {σ : Sig} {i : Nat} {τ : Tau}
theorem ct_nodes (hi : i < 16) : (cw cI cT cM ad (u3 σ i τ))[10 * i + 1]? = some (ad (10 * i + 1), .inr (3, [.ref (ad (10 * i + (2 + 0))), .ref (ad (10 * i + (2 + 1))), .ref (ad (10 * i + (2 + 2))), .ref (ad (10 * i + (2 + 3))), .ref (ad (10 * i + (2 + 4))), .ref (ad (10 * i + (2 + 5))), .int (τ 6 0), .int (τ 6 1)])) := by
  have h := cw_nodes (cI := cI) (cT := cT) (cM := cM) (ad := ad) (σ := u3 σ i τ) hi
  rw [u3_at] at h
  exact h
theorem ct_arr (hi : i < 16) {c : Nat} (hc : c < 6) : (cw cI cT cM ad (u3 σ i τ))[10 * i + (2 + c)]? = some (ad (10 * i + (2 + c)), .inl (cI, 60, .inl (τ c))) := by
  have h := cw_arr (cI := cI) (cT := cT) (cM := cM) (ad := ad) (σ := u3 σ i τ) hi hc
  rw [u3_at] at h
  exact h
theorem ct_cnt (hi : i < 16) {c : Nat} (hc : c = 7 ∨ c = 8) : (cw cI cT cM ad (u3 σ i τ))[10 * i + (1 + c)]? = some (ad (10 * i + (1 + c)), .inr (0, [.int (τ c 0), .int (τ c 1), .int (τ c 2)])) := by
  have h := cw_cnt (cI := cI) (cT := cT) (cM := cM) (ad := ad) (σ := u3 σ i τ) hi hc
  rw [u3_at] at h
  exact h
end TW
/-- the component's array types -/
abbrev cTy (cI cT cM : ClassId) : List (ClassId × FieldType) := [(cI, .int), (cT, .object "RankIndex$Tree"), (cM, .object "RankIndex$Image")]
abbrev mTy (cI cZ : ClassId) : List (ClassId × FieldType) := [(cI, .int), (cZ, .boolean)]
section ROWS
variable {p : Program} {l : Launch} {e : Env} {R : Room} {s : State} {m : MethodId} {args : Array Value} {below : List Frame} {meth : Method} {c : Code} {H : Heap} {locs : List Loc} {Q : State → Prop} {cells slots : Nat}
  {cc : ByteArray} {pc : Nat} {ls : Array Slot} {rest : List Value} {D : va_G} {H0 : Heap} {cI cT cM : ClassId} {ad : Nat → Nat} {σ : Sig} {i : Nat} {τ : Tau} {own : String} {index : Nat}
theorem cr_iast (hD : gInj 167 ad) (hx : p.tables.exec = Jvm.exec) (hb : c.code = cc) (hX : kX D (cTy cI cT cM) s) (hP : va_P D vwCl (cw cI cT cM ad (u3 σ i τ)) H) (hS : va_S (gA 167 ad) H0 H locs) (hi : i < 16) {a : Nat} (ha : a < 6) {j x : Int32} (hin : ¬ (j < 0 ∨ 60 ≤ j.toNatClampNeg)) (hdg : decode cc pc = .ok (.iastore, 1))
    (kk : ∀ (H1 : Heap) (locs1 : List Loc), va_P D vwCl (cw cI cT cM ad (u3 σ i (u2 τ a j.toNatClampNeg x))) H1 → va_S (gA 167 ad) H0 H1 locs1 → W p l e R s m args below meth c H1 locs1 cells slots Q (F0 m (pc + 1) ls rest)) : W p l e R s m args below meth c H locs cells slots Q (F0 m pc ls (.int x :: .int j :: .ref (ad (10 * i + (2 + a))) :: rest)) := by
  refine va_iast hx hb hX.1 hP (gw_D hD _) hS (10 * i + (2 + a)) 0 (ct_arr hi ha) rfl hin hdg (fun H1 locs1 hP1 _ hS1 => ?_)
  rw [cw_ast hi ha] at hP1
  exact kk H1 locs1 hP1 hS1
theorem cr_ild (hx : p.tables.exec = Jvm.exec) (hb : c.code = cc) (hX : kX D (cTy cI cT cM) s) (hP : va_P D vwCl (cw cI cT cM ad (u3 σ i τ)) H) (hi : i < 16) {a : Nat} (ha : a < 6) {j : Int32} (hin : ¬ (j < 0 ∨ 60 ≤ j.toNatClampNeg)) (hdg : decode cc pc = .ok (.iaload, 1))
    (kk : W p l e R s m args below meth c H locs cells slots Q (F0 m (pc + 1) ls (.int (τ a j.toNatClampNeg) :: rest))) : W p l e R s m args below meth c H locs cells slots Q (F0 m pc ls (.int j :: .ref (ad (10 * i + (2 + a))) :: rest)) :=
  va_iald hx hb hX.1 hP (10 * i + (2 + a)) 0 (ct_arr hi ha) rfl hin hdg kk
theorem cr_putTop (hD : gInj 167 ad) (hx : p.tables.exec = Jvm.exec) (hb : c.code = cc) (ht : ∀ w ∈ kt, w.before args s = true) (hown : s.vm.findClass own = some m.cls) (hX : kX D (cTy cI cT cM) s) (hP : va_P D vwCl (cw cI cT cM ad (u3 σ i τ)) H) (hS : va_S (gA 167 ad) H0 H locs) (hi : i < 16) (hl : Cond.fieldLink own index "RankIndex$Nodes" "top" "I" ∈ kt) {x : Int32} (hdg : decode cc pc = .ok (.putfield index, 3))
    (kk : ∀ (H1 : Heap) (locs1 : List Loc), va_P D vwCl (cw cI cT cM ad (u3 σ i (u2 τ 6 0 x))) H1 → va_S (gA 167 ad) H0 H1 locs1 → W p l e R s m args below meth c H1 locs1 cells slots Q (F0 m (pc + 3) ls rest)) : W p l e R s m args below meth c H locs cells slots Q (F0 m pc ls (.int x :: .ref (ad (10 * i + 1)) :: rest)) := by
  refine va_put (D := D) (ci := 3) (v := .int x) (ty := .int) hx hb ht i_X4 tyX4 tyX4_ok nmX4 hown hX.1 hP (gw_D hD _) hS (10 * i + 1) (ct_nodes hi) rfl 6 (by decide) (ht _ hl) (fun _ h9 => h9) rfl (by decide +kernel) rfl rfl (Nat.le_of_ble_eq_true rfl) hdg (fun H1 locs1 hP1 _ hS1 => ?_)
  have e := cw_nst (cI := cI) (cT := cT) (cM := cM) (ad := ad) (σ := σ) hi (τ := τ) (upd (τ 6) 0 x)
  exact kk H1 locs1 (by rw [u2, ← e]; exact hP1) hS1
theorem cr_putCount (hD : gInj 167 ad) (hx : p.tables.exec = Jvm.exec) (hb : c.code = cc) (ht : ∀ w ∈ kt, w.before args s = true) (hown : s.vm.findClass own = some m.cls) (hX : kX D (cTy cI cT cM) s) (hP : va_P D vwCl (cw cI cT cM ad (u3 σ i τ)) H) (hS : va_S (gA 167 ad) H0 H locs) (hi : i < 16) (hl : Cond.fieldLink own index "RankIndex$Nodes" "count" "I" ∈ kt) {x : Int32} (hdg : decode cc pc = .ok (.putfield index, 3))
    (kk : ∀ (H1 : Heap) (locs1 : List Loc), va_P D vwCl (cw cI cT cM ad (u3 σ i (u2 τ 6 1 x))) H1 → va_S (gA 167 ad) H0 H1 locs1 → W p l e R s m args below meth c H1 locs1 cells slots Q (F0 m (pc + 3) ls rest)) : W p l e R s m args below meth c H locs cells slots Q (F0 m pc ls (.int x :: .ref (ad (10 * i + 1)) :: rest)) := by
  refine va_put (D := D) (ci := 3) (v := .int x) (ty := .int) hx hb ht i_X4 tyX4 tyX4_ok nmX4 hown hX.1 hP (gw_D hD _) hS (10 * i + 1) (ct_nodes hi) rfl 7 (by decide) (ht _ hl) (fun _ h9 => h9) rfl (by decide +kernel) rfl rfl (Nat.le_of_ble_eq_true rfl) hdg (fun H1 locs1 hP1 _ hS1 => ?_)
  have e := cw_nst (cI := cI) (cT := cT) (cM := cM) (ad := ad) (σ := σ) hi (τ := τ) (upd (τ 6) 1 x)
  exact kk H1 locs1 (by rw [u2, ← e]; exact hP1) hS1
theorem cr_putC {f : Nat} {nm : String} (hD : gInj 167 ad) (hx : p.tables.exec = Jvm.exec) (hb : c.code = cc) (ht : ∀ w ∈ kt, w.before args s = true) (hown : s.vm.findClass own = some m.cls) (hX : kX D (cTy cI cT cM) s) (hP : va_P D vwCl (cw cI cT cM ad (u3 σ i τ)) H) (hS : va_S (gA 167 ad) H0 H locs) (hi : i < 16) {a : Nat} (ha : a = 7 ∨ a = 8) (hf : f = 0 ∧ nm = "promoted" ∨ f = 1 ∧ nm = "demoted" ∨ f = 2 ∧ nm = "turns") (hl : Cond.fieldLink own index "RankIndex$Counts" nm "I" ∈ kt) {x : Int32} (hdg : decode cc pc = .ok (.putfield index, 3))
    (kk : ∀ (H1 : Heap) (locs1 : List Loc), va_P D vwCl (cw cI cT cM ad (u3 σ i (u2 τ a f x))) H1 → va_S (gA 167 ad) H0 H1 locs1 → W p l e R s m args below meth c H1 locs1 cells slots Q (F0 m (pc + 3) ls rest)) : W p l e R s m args below meth c H locs cells slots Q (F0 m pc ls (.int x :: .ref (ad (10 * i + (1 + a))) :: rest)) := by
  have e := cw_cst (cI := cI) (cT := cT) (cM := cM) (ad := ad) (σ := σ) hi ha (τ := τ) (upd (τ a) f x)
  rcases hf with ⟨rfl, rfl⟩ | ⟨rfl, rfl⟩ | ⟨rfl, rfl⟩
  · refine va_put (D := D) (ci := 0) (v := .int x) (ty := .int) hx hb ht i_X1 tyX1 tyX1_ok nmX1 hown hX.1 hP (gw_D hD _) hS (10 * i + (1 + a)) (ct_cnt hi ha) rfl 0 (by decide) (ht _ hl) (fun _ h9 => h9) rfl (by decide +kernel) rfl rfl (Nat.le_of_ble_eq_true rfl) hdg (fun H1 locs1 hP1 _ hS1 => ?_)
    exact kk H1 locs1 (by rw [u2, ← e]; exact hP1) hS1
  · refine va_put (D := D) (ci := 0) (v := .int x) (ty := .int) hx hb ht i_X1 tyX1 tyX1_ok nmX1 hown hX.1 hP (gw_D hD _) hS (10 * i + (1 + a)) (ct_cnt hi ha) rfl 1 (by decide) (ht _ hl) (fun _ h9 => h9) rfl (by decide +kernel) rfl rfl (Nat.le_of_ble_eq_true rfl) hdg (fun H1 locs1 hP1 _ hS1 => ?_)
    exact kk H1 locs1 (by rw [u2, ← e]; exact hP1) hS1
  · refine va_put (D := D) (ci := 0) (v := .int x) (ty := .int) hx hb ht i_X1 tyX1 tyX1_ok nmX1 hown hX.1 hP (gw_D hD _) hS (10 * i + (1 + a)) (ct_cnt hi ha) rfl 2 (by decide) (ht _ hl) (fun _ h9 => h9) rfl (by decide +kernel) rfl rfl (Nat.le_of_ble_eq_true rfl) hdg (fun H1 locs1 hP1 _ hS1 => ?_)
    exact kk H1 locs1 (by rw [u2, ← e]; exact hP1) hS1
theorem cr_putPast {f : Nat} {nm : String} (hD : gInj 167 ad) (hx : p.tables.exec = Jvm.exec) (hb : c.code = cc) (ht : ∀ w ∈ kt, w.before args s = true) (hown : s.vm.findClass own = some m.cls) (hX : kX D (cTy cI cT cM) s) (hP : va_P D vwCl (cw cI cT cM ad σ) H) (hS : va_S (gA 167 ad) H0 H locs) (hf : f = 0 ∧ nm = "next" ∨ f = 1 ∧ nm = "held") (hl : Cond.fieldLink own index "RankIndex$Past" nm "I" ∈ kt) {x : Int32} (hdg : decode cc pc = .ok (.putfield index, 3))
    (kk : ∀ (H1 : Heap) (locs1 : List Loc), va_P D vwCl (cw cI cT cM ad (u3 σ 16 (u2 (σ 16) 0 f x))) H1 → va_S (gA 167 ad) H0 H1 locs1 → W p l e R s m args below meth c H1 locs1 cells slots Q (F0 m (pc + 3) ls rest)) : W p l e R s m args below meth c H locs cells slots Q (F0 m pc ls (.int x :: .ref (ad 161) :: rest)) := by
  have e := cw_pst (cI := cI) (cT := cT) (cM := cM) (ad := ad) (σ := σ) (τ := σ 16) (upd (σ 16 0) f x)
  rw [u3_self] at e
  rcases hf with ⟨rfl, rfl⟩ | ⟨rfl, rfl⟩
  · refine va_put (D := D) (ci := 4) (v := .int x) (ty := .int) hx hb ht i_X5 tyX5 tyX5_ok nmX5 hown hX.1 hP (gw_D hD _) hS 161 cw_past rfl 1 (by decide) (ht _ hl) (fun _ h9 => h9) rfl (by decide +kernel) rfl rfl (Nat.le_of_ble_eq_true rfl) hdg (fun H1 locs1 hP1 _ hS1 => ?_)
    exact kk H1 locs1 (by rw [u2, ← e]; exact hP1) hS1
  · refine va_put (D := D) (ci := 4) (v := .int x) (ty := .int) hx hb ht i_X5 tyX5 tyX5_ok nmX5 hown hX.1 hP (gw_D hD _) hS 161 cw_past rfl 2 (by decide) (ht _ hl) (fun _ h9 => h9) rfl (by decide +kernel) rfl rfl (Nat.le_of_ble_eq_true rfl) hdg (fun H1 locs1 hP1 _ hS1 => ?_)
    exact kk H1 locs1 (by rw [u2, ← e]; exact hP1) hS1
theorem cr_putSeed {j : Nat} (hD : gInj 167 ad) (hx : p.tables.exec = Jvm.exec) (hb : c.code = cc) (ht : ∀ w ∈ kt, w.before args s = true) (hown : s.vm.findClass own = some m.cls) (hX : kX D (cTy cI cT cM) s) (hP : va_P D vwCl (cw cI cT cM ad σ) H) (hS : va_S (gA 167 ad) H0 H locs) (hj : j < 2) (hl : Cond.fieldLink own index "RankIndex$Image" "seedValue" "I" ∈ kt) {x : Int32} (hdg : decode cc pc = .ok (.putfield index, 3))
    (kk : ∀ (H1 : Heap) (locs1 : List Loc), va_P D vwCl (cw cI cT cM ad (u3 σ 16 (u2 (σ 16) (1 + j) 0 x))) H1 → va_S (gA 167 ad) H0 H1 locs1 → W p l e R s m args below meth c H1 locs1 cells slots Q (F0 m (pc + 3) ls rest)) : W p l e R s m args below meth c H locs cells slots Q (F0 m pc ls (.int x :: .ref (ad (164 + j)) :: rest)) := by
  have e := cw_ist (cI := cI) (cT := cT) (cM := cM) (ad := ad) (σ := σ) (τ := σ 16) hj (upd (σ 16 (1 + j)) 0 x)
  rw [u3_self] at e
  refine va_put (D := D) (ci := 2) (v := .int x) (ty := .int) hx hb ht i_X3 tyX3 tyX3_ok nmX3 hown hX.1 hP (gw_D hD _) hS (164 + j) (cw_img hj) rfl 1 (by decide) (ht _ hl) (fun _ h9 => h9) rfl (by decide +kernel) rfl rfl (Nat.le_of_ble_eq_true rfl) hdg (fun H1 locs1 hP1 _ hS1 => ?_)
  exact kk H1 locs1 (by rw [u2, ← e]; exact hP1) hS1
theorem cr_putKept {j : Nat} (hD : gInj 167 ad) (hx : p.tables.exec = Jvm.exec) (hb : c.code = cc) (ht : ∀ w ∈ kt, w.before args s = true) (hown : s.vm.findClass own = some m.cls) (hX : kX D (cTy cI cT cM) s) (hP : va_P D vwCl (cw cI cT cM ad σ) H) (hS : va_S (gA 167 ad) H0 H locs) (hj : j < 2) (hl : Cond.fieldLink own index "RankIndex$Image" "kept" "Z" ∈ kt) (hdg : decode cc pc = .ok (.putfield index, 3))
    (kk : ∀ (H1 : Heap) (locs1 : List Loc), va_P D vwCl (cw cI cT cM ad (u3 σ 16 (u2 (σ 16) (1 + j) 1 1))) H1 → va_S (gA 167 ad) H0 H1 locs1 → W p l e R s m args below meth c H1 locs1 cells slots Q (F0 m (pc + 3) ls rest)) : W p l e R s m args below meth c H locs cells slots Q (F0 m pc ls (.int 1 :: .ref (ad (164 + j)) :: rest)) := by
  have e := cw_ist (cI := cI) (cT := cT) (cM := cM) (ad := ad) (σ := σ) (τ := σ 16) hj (upd (σ 16 (1 + j)) 1 1)
  rw [u3_self] at e
  refine va_put (D := D) (ci := 2) (v := .int 1) (ty := .boolean) hx hb ht i_X3 tyX3 tyX3_ok nmX3 hown hX.1 hP (gw_D hD _) hS (164 + j) (cw_img hj) rfl 2 (by decide) (ht _ hl) (fun _ h9 => h9) rfl (by decide +kernel) rfl rfl (Nat.le_of_ble_eq_true rfl) hdg (fun H1 locs1 hP1 _ hS1 => ?_)
  exact kk H1 locs1 (by rw [u2, ← e]; exact hP1) hS1
theorem cr_putDraw (hD : gInj 167 ad) (hx : p.tables.exec = Jvm.exec) (hb : c.code = cc) (ht : ∀ w ∈ kt, w.before args s = true) (hown : s.vm.findClass own = some m.cls) (hX : kX D (cTy cI cT cM) s) (hP : va_P D vwCl (cw cI cT cM ad σ) H) (hS : va_S (gA 167 ad) H0 H locs) (hl : Cond.fieldLink own index "RankIndex$Draws" "value" "I" ∈ kt) {x : Int32} (hdg : decode cc pc = .ok (.putfield index, 3))
    (kk : ∀ (H1 : Heap) (locs1 : List Loc), va_P D vwCl (cw cI cT cM ad (u3 σ 16 (u2 (σ 16) 3 0 x))) H1 → va_S (gA 167 ad) H0 H1 locs1 → W p l e R s m args below meth c H1 locs1 cells slots Q (F0 m (pc + 3) ls rest)) : W p l e R s m args below meth c H locs cells slots Q (F0 m pc ls (.int x :: .ref (ad 166) :: rest)) := by
  have e := cw_dst (cI := cI) (cT := cT) (cM := cM) (ad := ad) (σ := σ) (τ := σ 16) (upd (σ 16 3) 0 x)
  rw [u3_self] at e
  refine va_put (D := D) (ci := 1) (v := .int x) (ty := .int) hx hb ht i_X2 tyX2 tyX2_ok nmX2 hown hX.1 hP (gw_D hD _) hS 166 cw_draws rfl 0 (by decide) (ht _ hl) (fun _ h9 => h9) rfl (by decide +kernel) rfl rfl (Nat.le_of_ble_eq_true rfl) hdg (fun H1 locs1 hP1 _ hS1 => ?_)
  exact kk H1 locs1 (by rw [u2, ← e]; exact hP1) hS1
/-- System.arraycopy of sixty numbers, from a row of tree j to the same row of tree i -/
theorem cr_copy {j : Nat} (hD : gInj 167 ad) (hx : p.tables.exec = Jvm.exec) (hb : c.code = cc) (hml : c.maxLocals = ls.size) (ht : ∀ w ∈ kt, w.before args s = true) (hown : s.vm.findClass own = some m.cls) (hX : kX D (cTy cI cT cM) s) (hP : va_P D vwCl (cw cI cT cM ad (u3 σ i τ)) H) (hS : va_S (gA 167 ad) H0 H locs) (hi : i < 16) (hj : j < 16) (hij : j ≠ i) {a : Nat} (ha : a < 6) (hl : Cond.methodLink own index arraycopyName ∈ kt)
    (hframes : 1 ≤ R.frames) (hlocals : (rest.map fun v => v.category).sum + (nativeFrameWords "java/lang/System" "arraycopy" 5 + 11) ≤ R.locals) (hdg : decode cc pc = .ok (.invokestatic index, 3))
    (kk : ∀ (H1 : Heap) (locs1 : List Loc), va_P D vwCl (cw cI cT cM ad (u3 σ i (u1 τ a (va_cpy (σ j a) (τ a) 0 0 60)))) H1 → va_S (gA 167 ad) H0 H1 locs1 → W p l e R s m args below meth c H1 locs1 cells slots Q (F0 m (pc + 3) ls rest)) : W p l e R s m args below meth c H locs cells slots Q (F0 m pc ls (.int 60 :: .int 0 :: .ref (ad (10 * i + (2 + a))) :: .int 0 :: .ref (ad (10 * j + (2 + a))) :: rest)) := by
  have e0 := cw_arr (cI := cI) (cT := cT) (cM := cM) (ad := ad) (σ := u3 σ i τ) hj ha
  rw [u3_ne σ τ hij] at e0
  refine va_copyi hx hb hml hown (ht _ hl) (ht _ kNM_arraycopyName) (ht _ kSM_arraycopyName) (ht _ kIN_RJ10) hX.1 hP (gw_D hD _) hS (10 * j + (2 + a)) (10 * i + (2 + a)) 0 0 e0 (ct_arr hi ha) rfl rfl rfl (by decide) (by decide) (by decide) (Nat.le_of_ble_eq_true rfl) (Nat.le_of_ble_eq_true rfl) (fun _ _ => rfl) hframes hlocals hdg (fun H1 locs1 hP1 _ hS1 => ?_)
  have e := cw_ast (cI := cI) (cT := cT) (cM := cM) (ad := ad) (σ := σ) hi ha (τ := τ) (va_cpy (σ j a) (τ a) 0 0 60)
  exact kk H1 locs1 (by rw [← e]; exact hP1) hS1
theorem P_u3 (i : Nat) (hP : va_P D vwCl (cw cI cT cM ad σ) H) : va_P D vwCl (cw cI cT cM ad (u3 σ i (σ i))) H := by rw [u3_self]; exact hP
end ROWS
section TW2
variable {cI cT cM : ClassId} {ad : Nat → Nat} {σ : Sig} {i j : Nat} {τ : Tau}
theorem c2_nodes (hj : j < 16) (hij : j ≠ i) : (cw cI cT cM ad (u3 σ i τ))[10 * j + 1]? = some (ad (10 * j + 1), .inr (3, [.ref (ad (10 * j + (2 + 0))), .ref (ad (10 * j + (2 + 1))), .ref (ad (10 * j + (2 + 2))), .ref (ad (10 * j + (2 + 3))), .ref (ad (10 * j + (2 + 4))), .ref (ad (10 * j + (2 + 5))), .int (σ j 6 0), .int (σ j 6 1)])) := by
  have h := cw_nodes (cI := cI) (cT := cT) (cM := cM) (ad := ad) (σ := u3 σ i τ) hj
  rw [u3_ne σ τ hij] at h
  exact h
theorem c2_cnt (hj : j < 16) (hij : j ≠ i) {c : Nat} (hc : c = 7 ∨ c = 8) : (cw cI cT cM ad (u3 σ i τ))[10 * j + (1 + c)]? = some (ad (10 * j + (1 + c)), .inr (0, [.int (σ j c 0), .int (σ j c 1), .int (σ j c 2)])) := by
  have h := cw_cnt (cI := cI) (cT := cT) (cM := cM) (ad := ad) (σ := u3 σ i τ) hj hc
  rw [u3_ne σ τ hij] at h
  exact h
end TW2
section MROWS
variable {p : Program} {l : Launch} {e : Env} {R : Room} {s : State} {m : MethodId} {args : Array Value} {below : List Frame} {meth : Method} {c : Code} {H : Heap} {locs : List Loc} {Q : State → Prop} {cells slots : Nat}
  {cc : ByteArray} {pc : Nat} {ls : Array Slot} {rest : List Value} {D : va_G} {H0 : Heap} {cI cZ : ClassId} {ad : Nat → Nat} {own : String} {index : Nat} {un sd : Int32} {now past images iseed kept order numof above pile aside fewest deep keys worths : Nat → Int32}
theorem mr_putUn (hD : gInj 15 ad) (hx : p.tables.exec = Jvm.exec) (hb : c.code = cc) (ht : ∀ w ∈ kt, w.before args s = true) (hown : s.vm.findClass own = some m.cls) (hX : kX D (mTy cI cZ) s) (hP : va_P D vwCl (mw cI cZ ad un sd now past images iseed kept order numof above pile aside fewest deep keys worths) H) (hS : va_S (gA 15 ad) H0 H locs) (hl : Cond.fieldLink own index "RankIndexModel" "undone" "I" ∈ kt) {x : Int32} (hdg : decode cc pc = .ok (.putfield index, 3))
    (kk : ∀ (H1 : Heap) (locs1 : List Loc), va_P D vwCl (mw cI cZ ad x sd now past images iseed kept order numof above pile aside fewest deep keys worths) H1 → va_S (gA 15 ad) H0 H1 locs1 → W p l e R s m args below meth c H1 locs1 cells slots Q (F0 m (pc + 3) ls rest)) : W p l e R s m args below meth c H locs cells slots Q (F0 m pc ls (.int x :: .ref (ad 0) :: rest)) := by
  refine va_put (D := D) (ci := 7) (v := .int x) (ty := .int) hx hb ht i_X9 tyX9 tyX9_ok nmX9 hown hX.1 hP (gw_D hD _) hS 0 mw_obj rfl 2 (by decide) (ht _ hl) (fun _ h9 => h9) rfl (by decide +kernel) rfl rfl (Nat.le_of_ble_eq_true rfl) hdg (fun H1 locs1 hP1 _ hS1 => ?_)
  exact kk H1 locs1 (by rw [← mw_set_un]; exact hP1) hS1
theorem mr_putSd (hD : gInj 15 ad) (hx : p.tables.exec = Jvm.exec) (hb : c.code = cc) (ht : ∀ w ∈ kt, w.before args s = true) (hown : s.vm.findClass own = some m.cls) (hX : kX D (mTy cI cZ) s) (hP : va_P D vwCl (mw cI cZ ad un sd now past images iseed kept order numof above pile aside fewest deep keys worths) H) (hS : va_S (gA 15 ad) H0 H locs) (hl : Cond.fieldLink own index "RankIndexModel" "seedNow" "I" ∈ kt) {x : Int32} (hdg : decode cc pc = .ok (.putfield index, 3))
    (kk : ∀ (H1 : Heap) (locs1 : List Loc), va_P D vwCl (mw cI cZ ad un x now past images iseed kept order numof above pile aside fewest deep keys worths) H1 → va_S (gA 15 ad) H0 H1 locs1 → W p l e R s m args below meth c H1 locs1 cells slots Q (F0 m (pc + 3) ls rest)) : W p l e R s m args below meth c H locs cells slots Q (F0 m pc ls (.int x :: .ref (ad 0) :: rest)) := by
  refine va_put (D := D) (ci := 7) (v := .int x) (ty := .int) hx hb ht i_X9 tyX9 tyX9_ok nmX9 hown hX.1 hP (gw_D hD _) hS 0 mw_obj rfl 6 (by decide) (ht _ hl) (fun _ h9 => h9) rfl (by decide +kernel) rfl rfl (Nat.le_of_ble_eq_true rfl) hdg (fun H1 locs1 hP1 _ hS1 => ?_)
  exact kk H1 locs1 (by rw [← mw_set_sd]; exact hP1) hS1
end MROWS
section CALLSV
variable {p : Program} {l : Launch} {e : Env} {R : Room} {s : State} {m : MethodId} {args : Array Value} {below : List Frame} {meth : Method} {c : Code} {H : Heap} {locs : List Loc} {Q : State → Prop}
  {y : MethodName} {bytes cc : ByteArray} {maxL nL n index : Nat} {rm : Room} {own : String} {As rest st0 : List Value} {D : va_G} {tys : List (ClassId × FieldType)} {A : Nat → Prop} {w w' : va_W} {pc : Nat} {ls : Array Slot} {H0 : Heap}
theorem ct_cSv (hM : CTv l y bytes maxL rm D tys A As w w') (hx : p.tables.exec = Jvm.exec) (hb : c.code = cc) (hml : c.maxLocals = nL) (hown : s.vm.findClass own = some m.cls) (ht : ∀ w ∈ kt, w.before args s = true) (hX : kX D tys s) (hP : va_P D vwCl w H) (hS : va_S A H0 H locs)
    (hk : kF y bytes maxL none n) (hlk : Cond.methodLink own index y ∈ kt) (hc0 : rm.cells = 0) (hs0 : rm.slots = 0) (hR : rm.frames + 1 ≤ R.frames ∧ 8 + (maxL + 11) + rm.locals ≤ R.locals)
    (hn : As.length = n) (hsz : ls.size = nL) (hst : st0 = As.reverse ++ rest) (hW : (rest.map fun v => v.category).sum ≤ 8) (hdg : decode cc pc = .ok (.invokestatic index, 3))
    (kk : ∀ (H1 : Heap) (locs1 : List Loc), va_P D vwCl w' H1 → va_S A H0 H1 locs1 → W p l e R s m args below meth c H1 locs1 0 0 Q (F0 m (pc + 3) ls rest)) : W p l e R s m args below meth c H locs 0 0 Q (F0 m pc ls st0) := by
  obtain ⟨h1, h2, h4, h5⟩ := hk
  have hpre := kPre_pre (av := As) hX hP
  have hcw : CallB R s args own index y bytes maxL none (.code y bytes maxL none :: kt) rm 0 0 n ∧ (Cond.static y).before args s = true := ⟨callB_of n ht (kt_code h1) rfl hc0 hs0 (ht _ h4) (ht _ hlk) h5 hR, ht _ h2⟩
  refine va_callv (va_runS (As := As) (rest := rest) ⟨hx, hb, hml, hown, ht⟩ hM hcw ⟨hpre.1, hpre.2⟩ rfl hn hsz hst (lv_room hW) hdg ⟨Nat.zero_le _, Nat.zero_le _⟩) hS (fun _ _ h => h) (fun _ h => h) (fun u t H1 locs1 hth hvm hw hB hz1 hk1 hS1 => ?_)
  rw [hth] at hB
  exact kk H1 locs1 hB hS1
end CALLSV
