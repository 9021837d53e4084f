/-! ===== the law's cases ===== -/
def LC (p : Program) (s : State) (m : MethodId) (c : Code) (D : va_G) (cI cT cM cZ : ClassId) (ad bd : Nat → Nat) (b L : Nat) (xs : Nat → Int32) : Prop :=
  p.tables.exec = Jvm.exec ∧ c.code = cL_law ∧ c.maxLocals = 4 ∧ s.vm.findClass RL = some m.cls ∧ (∀ w ∈ kt, w.before #[Value.ref b] s = true) ∧ kX D (cTy cI cT cM) s ∧ kX D (mTy cI cZ) s ∧ gInj 167 ad ∧ gInj 15 bd ∧ (∀ q, gA 167 ad q → s.heap.size ≤ q) ∧ (∀ q, gA 15 bd q → s.heap.size ≤ q) ∧ (∀ k j, k < 167 → j < 15 → ad k ≠ bd j) ∧ va_X b L xs s s.heap ∧ b < s.heap.size ∧ L ≤ 2048
def LW (s : State) (D : va_G) (cI cT cM cZ : ClassId) (ad bd : Nat → Nat) (σ : Sig) (μ : Mst) (H : Heap) (locs : List Loc) : Prop := RelS σ μ ∧ va_P D vwCl (cw cI cT cM ad σ) H ∧ va_P D vwCl (mwS cI cZ bd μ) H ∧ va_S (fun q : Nat => s.heap.size ≤ q) s.heap H locs
theorem no_m {cI cZ : ClassId} {ad bd : Nat → Nat} (h : ∀ k j, k < 167 → j < 15 → ad k ≠ bd j) (μ : Mst) : ∀ (k : Nat) (x : Nat × va_E), (mwS cI cZ bd μ)[k]? = some x → ¬ gA 167 ad x.1 := by
  intro k x hx
  obtain ⟨hk, rfl⟩ := gw_get hx
  rintro ⟨j, hj, e⟩
  exact h j k hj hk e
theorem no_c {cI cT cM : ClassId} {ad bd : Nat → Nat} (h : ∀ k j, k < 167 → j < 15 → ad k ≠ bd j) (σ : Sig) : ∀ (k : Nat) (x : Nat × va_E), (cw cI cT cM ad σ)[k]? = some x → ¬ gA 15 bd x.1 := by
  intro k x hx
  obtain ⟨hk, rfl⟩ := gw_get hx
  rintro ⟨j, hj, e⟩
  exact h k j hk hj e.symm
section CASES
variable {p : Program} {l : Launch} {e : Env} {s : State} {m : MethodId} {below : List Frame} {meth : Method} {c : Code} {D : va_G} {cI cT cM cZ : ClassId} {ad bd : Nat → Nat} {b L : Nat} {xs : Nat → Int32} {Q : State → Prop} {c0 s0 i : Nat} {σ : Sig} {μ : Mst} {H : Heap} {locs : List Loc} {ls : Array Slot}
set_option maxHeartbeats 4000000 in
theorem c_told (C : LC p s m c D cI cT cM cZ ad bd b L xs) (hc0 : c0 ≤ room_1.cells) (hs0 : s0 ≤ room_1.slots) (hi : i + 4 ≤ L) (next : ∀ (σ' : Sig) (μ' : Mst) (H : Heap) (locs : List Loc) (ls : Array Slot), LW s D cI cT cM cZ ad bd σ' μ' H locs → lv_has ls 4 [(0, .ref b), (1, .ref (ad 160)), (2, .ref (bd 0)), (3, .int (nI i))] → W p l e room_1 s m #[Value.ref b] below meth c H locs c0 s0 Q (F0 m 715 ls [])) (hw : LW s D cI cT cM cZ ad bd σ μ H locs) (hl : lv_has ls 4 [(0, .ref b), (1, .ref (ad 160)), (2, .ref (bd 0)), (3, .int (nI i))]) : W p l e room_1 s m #[Value.ref b] below meth c H locs c0 s0 Q (F0 m 132 ls []) := by
  obtain ⟨hx, hb, hml, hown, ht, hXc, hXm, hda, hdb, hA1, hB1, hdis, hXs, hbl, hL⟩ := C
  obtain ⟨hR, hP, hPm, hS⟩ := hw
  have hbA : ¬ (fun q : Nat => s.heap.size ≤ q) b := Nat.not_le.mpr hbl
  have in1 : vp_in (nI i + 1) L := by rw [show nI i + 1 = nI (i + 1) from nI_add i 1]; exact nI_nin (by omega) (by omega)
  obtain ⟨r, σ', μ', M1, M2, hR'⟩ := s_told (l := l) (D := D) (cI := cI) (cT := cT) (cM := cM) (cZ := cZ) hda hdb hR (xs (nI i + 1).toNatClampNeg)
  refine lv_aload_n hx hb dL_law_132 rfl (lv_at hl 1 rfl) ?_
  refine lv_aload_n hx hb dL_law_133 rfl (lv_at hl 0 rfl) ?_
  refine lv_iload_n hx hb dL_law_134 rfl (lv_at hl 3 rfl) ?_
  refine lv_iconst (v := 1) hx hb dL_law_135 (by decide) ?_
  refine lv_iadd hx hb dL_law_136 ?_
  refine va_sld hx hb hXs hbl hbA hS (in1) dL_law_137 ?_
  refine lw_cVi (As := [.int (xs (nI i + 1).toNatClampNeg)]) (rest := []) (wo := mwS cI cZ bd μ) M1 hx hb hml hown ht hXc hP hPm (no_m hdis μ) hA1 hS wX8_told kML_RL_13 rfl rfl ⟨Nat.le_of_ble_eq_true rfl, Nat.le_of_ble_eq_true rfl⟩ ⟨hc0, hs0⟩ (va_recv hXc.1 hP rfl cw_ri) rfl hl.1 rfl (Nat.le_of_ble_eq_true rfl) dL_law_138 (fun H locs hP hPm hS => ?_)
  refine lv_aload_n hx hb dL_law_141 rfl (lv_at hl 2 rfl) ?_
  refine lv_aload_n hx hb dL_law_142 rfl (lv_at hl 0 rfl) ?_
  refine lv_iload_n hx hb dL_law_143 rfl (lv_at hl 3 rfl) ?_
  refine lv_iconst (v := 1) hx hb dL_law_144 (by decide) ?_
  refine lv_iadd hx hb dL_law_145 ?_
  refine va_sld hx hb hXs hbl hbA hS (in1) dL_law_146 ?_
  refine lw_cVi (As := [.int (xs (nI i + 1).toNatClampNeg)]) (rest := [.int r]) (wo := cw cI cT cM ad σ') M2 hx hb hml hown ht hXm hPm hP (no_c hdis σ') hB1 hS wX9_told kML_RL_17 rfl rfl ⟨Nat.le_of_ble_eq_true rfl, Nat.le_of_ble_eq_true rfl⟩ ⟨hc0, hs0⟩ (va_recv hXm.1 hPm rfl mw_obj) rfl hl.1 rfl (Nat.le_of_ble_eq_true rfl) dL_law_147 (fun H locs hPm hP hS => ?_)
  exact lv_icmp_eq (tgt := 715) hx hb dL_law_150 (by decide) (fun _ => next σ' μ' H locs ls ⟨hR', hP, hPm, hS⟩ hl) (fun h => absurd rfl h)
set_option maxHeartbeats 4000000 in
theorem c_node (C : LC p s m c D cI cT cM cZ ad bd b L xs) (hc0 : c0 ≤ room_1.cells) (hs0 : s0 ≤ room_1.slots) (hi : i + 4 ≤ L) (next : ∀ (σ' : Sig) (μ' : Mst) (H : Heap) (locs : List Loc) (ls : Array Slot), LW s D cI cT cM cZ ad bd σ' μ' H locs → lv_has ls 4 [(0, .ref b), (1, .ref (ad 160)), (2, .ref (bd 0)), (3, .int (nI i))] → W p l e room_1 s m #[Value.ref b] below meth c H locs c0 s0 Q (F0 m 715 ls [])) (hw : LW s D cI cT cM cZ ad bd σ μ H locs) (hl : lv_has ls 4 [(0, .ref b), (1, .ref (ad 160)), (2, .ref (bd 0)), (3, .int (nI i))]) : W p l e room_1 s m #[Value.ref b] below meth c H locs c0 s0 Q (F0 m 155 ls []) := by
  obtain ⟨hx, hb, hml, hown, ht, hXc, hXm, hda, hdb, hA1, hB1, hdis, hXs, hbl, hL⟩ := C
  obtain ⟨hR, hP, hPm, hS⟩ := hw
  have hbA : ¬ (fun q : Nat => s.heap.size ≤ q) b := Nat.not_le.mpr hbl
  have in1 : vp_in (nI i + 1) L := by rw [show nI i + 1 = nI (i + 1) from nI_add i 1]; exact nI_nin (by omega) (by omega)
  have in2 : vp_in (nI i + 2) L := by rw [show nI i + 2 = nI (i + 2) from nI_add i 2]; exact nI_nin (by omega) (by omega)
  obtain ⟨r, σ', μ', M1, M2, hR'⟩ := s_node (l := l) (D := D) (cI := cI) (cT := cT) (cM := cM) (cZ := cZ) hda hdb hR (xs (nI i + 1).toNatClampNeg) (xs (nI i + 2).toNatClampNeg)
  refine lv_aload_n hx hb dL_law_155 rfl (lv_at hl 1 rfl) ?_
  refine lv_aload_n hx hb dL_law_156 rfl (lv_at hl 0 rfl) ?_
  refine lv_iload_n hx hb dL_law_157 rfl (lv_at hl 3 rfl) ?_
  refine lv_iconst (v := 1) hx hb dL_law_158 (by decide) ?_
  refine lv_iadd hx hb dL_law_159 ?_
  refine va_sld hx hb hXs hbl hbA hS (in1) dL_law_160 ?_
  refine lv_aload_n hx hb dL_law_161 rfl (lv_at hl 0 rfl) ?_
  refine lv_iload_n hx hb dL_law_162 rfl (lv_at hl 3 rfl) ?_
  refine lv_iconst (v := 2) hx hb dL_law_163 (by decide) ?_
  refine lv_iadd hx hb dL_law_164 ?_
  refine va_sld hx hb hXs hbl hbA hS (in2) dL_law_165 ?_
  refine lw_cVi (As := [.int (xs (nI i + 1).toNatClampNeg), .int (xs (nI i + 2).toNatClampNeg)]) (rest := []) (wo := mwS cI cZ bd μ) M1 hx hb hml hown ht hXc hP hPm (no_m hdis μ) hA1 hS wX8_node kML_RL_18 rfl rfl ⟨Nat.le_of_ble_eq_true rfl, Nat.le_of_ble_eq_true rfl⟩ ⟨hc0, hs0⟩ (va_recv hXc.1 hP rfl cw_ri) rfl hl.1 rfl (Nat.le_of_ble_eq_true rfl) dL_law_166 (fun H locs hP hPm hS => ?_)
  refine lv_aload_n hx hb dL_law_169 rfl (lv_at hl 2 rfl) ?_
  refine lv_aload_n hx hb dL_law_170 rfl (lv_at hl 0 rfl) ?_
  refine lv_iload_n hx hb dL_law_171 rfl (lv_at hl 3 rfl) ?_
  refine lv_iconst (v := 1) hx hb dL_law_172 (by decide) ?_
  refine lv_iadd hx hb dL_law_173 ?_
  refine va_sld hx hb hXs hbl hbA hS (in1) dL_law_174 ?_
  refine lv_aload_n hx hb dL_law_175 rfl (lv_at hl 0 rfl) ?_
  refine lv_iload_n hx hb dL_law_176 rfl (lv_at hl 3 rfl) ?_
  refine lv_iconst (v := 2) hx hb dL_law_177 (by decide) ?_
  refine lv_iadd hx hb dL_law_178 ?_
  refine va_sld hx hb hXs hbl hbA hS (in2) dL_law_179 ?_
  refine lw_cVi (As := [.int (xs (nI i + 1).toNatClampNeg), .int (xs (nI i + 2).toNatClampNeg)]) (rest := [.int r]) (wo := cw cI cT cM ad σ') M2 hx hb hml hown ht hXm hPm hP (no_c hdis σ') hB1 hS wX9_node kML_RL_22 rfl rfl ⟨Nat.le_of_ble_eq_true rfl, Nat.le_of_ble_eq_true rfl⟩ ⟨hc0, hs0⟩ (va_recv hXm.1 hPm rfl mw_obj) rfl hl.1 rfl (Nat.le_of_ble_eq_true rfl) dL_law_180 (fun H locs hPm hP hS => ?_)
  exact lv_icmp_eq (tgt := 715) hx hb dL_law_183 (by decide) (fun _ => next σ' μ' H locs ls ⟨hR', hP, hPm, hS⟩ hl) (fun h => absurd rfl h)
set_option maxHeartbeats 4000000 in
theorem c_key (C : LC p s m c D cI cT cM cZ ad bd b L xs) (hc0 : c0 ≤ room_1.cells) (hs0 : s0 ≤ room_1.slots) (hi : i + 4 ≤ L) (next : ∀ (σ' : Sig) (μ' : Mst) (H : Heap) (locs : List Loc) (ls : Array Slot), LW s D cI cT cM cZ ad bd σ' μ' H locs → lv_has ls 4 [(0, .ref b), (1, .ref (ad 160)), (2, .ref (bd 0)), (3, .int (nI i))] → W p l e room_1 s m #[Value.ref b] below meth c H locs c0 s0 Q (F0 m 715 ls [])) (hw : LW s D cI cT cM cZ ad bd σ μ H locs) (hl : lv_has ls 4 [(0, .ref b), (1, .ref (ad 160)), (2, .ref (bd 0)), (3, .int (nI i))]) : W p l e room_1 s m #[Value.ref b] below meth c H locs c0 s0 Q (F0 m 188 ls []) := by
  obtain ⟨hx, hb, hml, hown, ht, hXc, hXm, hda, hdb, hA1, hB1, hdis, hXs, hbl, hL⟩ := C
  obtain ⟨hR, hP, hPm, hS⟩ := hw
  have hbA : ¬ (fun q : Nat => s.heap.size ≤ q) b := Nat.not_le.mpr hbl
  have in1 : vp_in (nI i + 1) L := by rw [show nI i + 1 = nI (i + 1) from nI_add i 1]; exact nI_nin (by omega) (by omega)
  have in2 : vp_in (nI i + 2) L := by rw [show nI i + 2 = nI (i + 2) from nI_add i 2]; exact nI_nin (by omega) (by omega)
  obtain ⟨r, σ', μ', M1, M2, hR'⟩ := s_key (l := l) (D := D) (cI := cI) (cT := cT) (cM := cM) (cZ := cZ) hda hdb hR (xs (nI i + 1).toNatClampNeg) (xs (nI i + 2).toNatClampNeg)
  refine lv_aload_n hx hb dL_law_188 rfl (lv_at hl 1 rfl) ?_
  refine lv_aload_n hx hb dL_law_189 rfl (lv_at hl 0 rfl) ?_
  refine lv_iload_n hx hb dL_law_190 rfl (lv_at hl 3 rfl) ?_
  refine lv_iconst (v := 1) hx hb dL_law_191 (by decide) ?_
  refine lv_iadd hx hb dL_law_192 ?_
  refine va_sld hx hb hXs hbl hbA hS (in1) dL_law_193 ?_
  refine lv_aload_n hx hb dL_law_194 rfl (lv_at hl 0 rfl) ?_
  refine lv_iload_n hx hb dL_law_195 rfl (lv_at hl 3 rfl) ?_
  refine lv_iconst (v := 2) hx hb dL_law_196 (by decide) ?_
  refine lv_iadd hx hb dL_law_197 ?_
  refine va_sld hx hb hXs hbl hbA hS (in2) dL_law_198 ?_
  refine lw_cVi (As := [.int (xs (nI i + 1).toNatClampNeg), .int (xs (nI i + 2).toNatClampNeg)]) (rest := []) (wo := mwS cI cZ bd μ) M1 hx hb hml hown ht hXc hP hPm (no_m hdis μ) hA1 hS wX8_key kML_RL_23 rfl rfl ⟨Nat.le_of_ble_eq_true rfl, Nat.le_of_ble_eq_true rfl⟩ ⟨hc0, hs0⟩ (va_recv hXc.1 hP rfl cw_ri) rfl hl.1 rfl (Nat.le_of_ble_eq_true rfl) dL_law_199 (fun H locs hP hPm hS => ?_)
  refine lv_aload_n hx hb dL_law_202 rfl (lv_at hl 2 rfl) ?_
  refine lv_aload_n hx hb dL_law_203 rfl (lv_at hl 0 rfl) ?_
  refine lv_iload_n hx hb dL_law_204 rfl (lv_at hl 3 rfl) ?_
  refine lv_iconst (v := 1) hx hb dL_law_205 (by decide) ?_
  refine lv_iadd hx hb dL_law_206 ?_
  refine va_sld hx hb hXs hbl hbA hS (in1) dL_law_207 ?_
  refine lv_aload_n hx hb dL_law_208 rfl (lv_at hl 0 rfl) ?_
  refine lv_iload_n hx hb dL_law_209 rfl (lv_at hl 3 rfl) ?_
  refine lv_iconst (v := 2) hx hb dL_law_210 (by decide) ?_
  refine lv_iadd hx hb dL_law_211 ?_
  refine va_sld hx hb hXs hbl hbA hS (in2) dL_law_212 ?_
  refine lw_cVi (As := [.int (xs (nI i + 1).toNatClampNeg), .int (xs (nI i + 2).toNatClampNeg)]) (rest := [.int r]) (wo := cw cI cT cM ad σ') M2 hx hb hml hown ht hXm hPm hP (no_c hdis σ') hB1 hS wX9_key kML_RL_26 rfl rfl ⟨Nat.le_of_ble_eq_true rfl, Nat.le_of_ble_eq_true rfl⟩ ⟨hc0, hs0⟩ (va_recv hXm.1 hPm rfl mw_obj) rfl hl.1 rfl (Nat.le_of_ble_eq_true rfl) dL_law_213 (fun H locs hPm hP hS => ?_)
  exact lv_icmp_eq (tgt := 715) hx hb dL_law_216 (by decide) (fun _ => next σ' μ' H locs ls ⟨hR', hP, hPm, hS⟩ hl) (fun h => absurd rfl h)
set_option maxHeartbeats 4000000 in
theorem c_at (C : LC p s m c D cI cT cM cZ ad bd b L xs) (hc0 : c0 ≤ room_1.cells) (hs0 : s0 ≤ room_1.slots) (hi : i + 4 ≤ L) (next : ∀ (σ' : Sig) (μ' : Mst) (H : Heap) (locs : List Loc) (ls : Array Slot), LW s D cI cT cM cZ ad bd σ' μ' H locs → lv_has ls 4 [(0, .ref b), (1, .ref (ad 160)), (2, .ref (bd 0)), (3, .int (nI i))] → W p l e room_1 s m #[Value.ref b] below meth c H locs c0 s0 Q (F0 m 715 ls [])) (hw : LW s D cI cT cM cZ ad bd σ μ H locs) (hl : lv_has ls 4 [(0, .ref b), (1, .ref (ad 160)), (2, .ref (bd 0)), (3, .int (nI i))]) : W p l e room_1 s m #[Value.ref b] below meth c H locs c0 s0 Q (F0 m 221 ls []) := by
  obtain ⟨hx, hb, hml, hown, ht, hXc, hXm, hda, hdb, hA1, hB1, hdis, hXs, hbl, hL⟩ := C
  obtain ⟨hR, hP, hPm, hS⟩ := hw
  have hbA : ¬ (fun q : Nat => s.heap.size ≤ q) b := Nat.not_le.mpr hbl
  have in1 : vp_in (nI i + 1) L := by rw [show nI i + 1 = nI (i + 1) from nI_add i 1]; exact nI_nin (by omega) (by omega)
  obtain ⟨r, σ', μ', M1, M2, hR'⟩ := s_at (l := l) (D := D) (cI := cI) (cT := cT) (cM := cM) (cZ := cZ) hda hdb hR (xs (nI i + 1).toNatClampNeg)
  refine lv_aload_n hx hb dL_law_221 rfl (lv_at hl 1 rfl) ?_
  refine lv_aload_n hx hb dL_law_222 rfl (lv_at hl 0 rfl) ?_
  refine lv_iload_n hx hb dL_law_223 rfl (lv_at hl 3 rfl) ?_
  refine lv_iconst (v := 1) hx hb dL_law_224 (by decide) ?_
  refine lv_iadd hx hb dL_law_225 ?_
  refine va_sld hx hb hXs hbl hbA hS (in1) dL_law_226 ?_
  refine lw_cVi (As := [.int (xs (nI i + 1).toNatClampNeg)]) (rest := []) (wo := mwS cI cZ bd μ) M1 hx hb hml hown ht hXc hP hPm (no_m hdis μ) hA1 hS wX8_at kML_RL_27 rfl rfl ⟨Nat.le_of_ble_eq_true rfl, Nat.le_of_ble_eq_true rfl⟩ ⟨hc0, hs0⟩ (va_recv hXc.1 hP rfl cw_ri) rfl hl.1 rfl (Nat.le_of_ble_eq_true rfl) dL_law_227 (fun H locs hP hPm hS => ?_)
  refine lv_aload_n hx hb dL_law_230 rfl (lv_at hl 2 rfl) ?_
  refine lv_aload_n hx hb dL_law_231 rfl (lv_at hl 0 rfl) ?_
  refine lv_iload_n hx hb dL_law_232 rfl (lv_at hl 3 rfl) ?_
  refine lv_iconst (v := 1) hx hb dL_law_233 (by decide) ?_
  refine lv_iadd hx hb dL_law_234 ?_
  refine va_sld hx hb hXs hbl hbA hS (in1) dL_law_235 ?_
  refine lw_cVi (As := [.int (xs (nI i + 1).toNatClampNeg)]) (rest := [.int r]) (wo := cw cI cT cM ad σ') M2 hx hb hml hown ht hXm hPm hP (no_c hdis σ') hB1 hS wX9_at kML_RL_30 rfl rfl ⟨Nat.le_of_ble_eq_true rfl, Nat.le_of_ble_eq_true rfl⟩ ⟨hc0, hs0⟩ (va_recv hXm.1 hPm rfl mw_obj) rfl hl.1 rfl (Nat.le_of_ble_eq_true rfl) dL_law_236 (fun H locs hPm hP hS => ?_)
  exact lv_icmp_eq (tgt := 715) hx hb dL_law_239 (by decide) (fun _ => next σ' μ' H locs ls ⟨hR', hP, hPm, hS⟩ hl) (fun h => absurd rfl h)
set_option maxHeartbeats 4000000 in
theorem c_put (C : LC p s m c D cI cT cM cZ ad bd b L xs) (hc0 : c0 ≤ room_1.cells) (hs0 : s0 ≤ room_1.slots) (hi : i + 4 ≤ L) (next : ∀ (σ' : Sig) (μ' : Mst) (H : Heap) (locs : List Loc) (ls : Array Slot), LW s D cI cT cM cZ ad bd σ' μ' H locs → lv_has ls 4 [(0, .ref b), (1, .ref (ad 160)), (2, .ref (bd 0)), (3, .int (nI i))] → W p l e room_1 s m #[Value.ref b] below meth c H locs c0 s0 Q (F0 m 715 ls [])) (hw : LW s D cI cT cM cZ ad bd σ μ H locs) (hl : lv_has ls 4 [(0, .ref b), (1, .ref (ad 160)), (2, .ref (bd 0)), (3, .int (nI i))]) : W p l e room_1 s m #[Value.ref b] below meth c H locs c0 s0 Q (F0 m 244 ls []) := by
  obtain ⟨hx, hb, hml, hown, ht, hXc, hXm, hda, hdb, hA1, hB1, hdis, hXs, hbl, hL⟩ := C
  obtain ⟨hR, hP, hPm, hS⟩ := hw
  have hbA : ¬ (fun q : Nat => s.heap.size ≤ q) b := Nat.not_le.mpr hbl
  have in1 : vp_in (nI i + 1) L := by rw [show nI i + 1 = nI (i + 1) from nI_add i 1]; exact nI_nin (by omega) (by omega)
  have in2 : vp_in (nI i + 2) L := by rw [show nI i + 2 = nI (i + 2) from nI_add i 2]; exact nI_nin (by omega) (by omega)
  obtain ⟨r, σ', μ', M1, M2, hR'⟩ := s_put (l := l) (D := D) (cI := cI) (cT := cT) (cM := cM) (cZ := cZ) hda hdb hR (xs (nI i + 1).toNatClampNeg) (xs (nI i + 2).toNatClampNeg)
  refine lv_aload_n hx hb dL_law_244 rfl (lv_at hl 1 rfl) ?_
  refine lv_aload_n hx hb dL_law_245 rfl (lv_at hl 0 rfl) ?_
  refine lv_iload_n hx hb dL_law_246 rfl (lv_at hl 3 rfl) ?_
  refine lv_iconst (v := 1) hx hb dL_law_247 (by decide) ?_
  refine lv_iadd hx hb dL_law_248 ?_
  refine va_sld hx hb hXs hbl hbA hS (in1) dL_law_249 ?_
  refine lv_aload_n hx hb dL_law_250 rfl (lv_at hl 0 rfl) ?_
  refine lv_iload_n hx hb dL_law_251 rfl (lv_at hl 3 rfl) ?_
  refine lv_iconst (v := 2) hx hb dL_law_252 (by decide) ?_
  refine lv_iadd hx hb dL_law_253 ?_
  refine va_sld hx hb hXs hbl hbA hS (in2) dL_law_254 ?_
  refine lw_cVi (As := [.int (xs (nI i + 1).toNatClampNeg), .int (xs (nI i + 2).toNatClampNeg)]) (rest := []) (wo := mwS cI cZ bd μ) M1 hx hb hml hown ht hXc hP hPm (no_m hdis μ) hA1 hS wX8_put kML_RL_31 rfl rfl ⟨Nat.le_of_ble_eq_true rfl, Nat.le_of_ble_eq_true rfl⟩ ⟨hc0, hs0⟩ (va_recv hXc.1 hP rfl cw_ri) rfl hl.1 rfl (Nat.le_of_ble_eq_true rfl) dL_law_255 (fun H locs hP hPm hS => ?_)
  refine lv_aload_n hx hb dL_law_258 rfl (lv_at hl 2 rfl) ?_
  refine lv_aload_n hx hb dL_law_259 rfl (lv_at hl 0 rfl) ?_
  refine lv_iload_n hx hb dL_law_260 rfl (lv_at hl 3 rfl) ?_
  refine lv_iconst (v := 1) hx hb dL_law_261 (by decide) ?_
  refine lv_iadd hx hb dL_law_262 ?_
  refine va_sld hx hb hXs hbl hbA hS (in1) dL_law_263 ?_
  refine lv_aload_n hx hb dL_law_264 rfl (lv_at hl 0 rfl) ?_
  refine lv_iload_n hx hb dL_law_265 rfl (lv_at hl 3 rfl) ?_
  refine lv_iconst (v := 2) hx hb dL_law_266 (by decide) ?_
  refine lv_iadd hx hb dL_law_267 ?_
  refine va_sld hx hb hXs hbl hbA hS (in2) dL_law_268 ?_
  refine lw_cVi (As := [.int (xs (nI i + 1).toNatClampNeg), .int (xs (nI i + 2).toNatClampNeg)]) (rest := [.int r]) (wo := cw cI cT cM ad σ') M2 hx hb hml hown ht hXm hPm hP (no_c hdis σ') hB1 hS wX9_put kML_RL_34 rfl rfl ⟨Nat.le_of_ble_eq_true rfl, Nat.le_of_ble_eq_true rfl⟩ ⟨hc0, hs0⟩ (va_recv hXm.1 hPm rfl mw_obj) rfl hl.1 rfl (Nat.le_of_ble_eq_true rfl) dL_law_269 (fun H locs hPm hP hS => ?_)
  exact lv_icmp_eq (tgt := 715) hx hb dL_law_272 (by decide) (fun _ => next σ' μ' H locs ls ⟨hR', hP, hPm, hS⟩ hl) (fun h => absurd rfl h)
set_option maxHeartbeats 4000000 in
theorem c_take (C : LC p s m c D cI cT cM cZ ad bd b L xs) (hc0 : c0 ≤ room_1.cells) (hs0 : s0 ≤ room_1.slots) (hi : i + 4 ≤ L) (next : ∀ (σ' : Sig) (μ' : Mst) (H : Heap) (locs : List Loc) (ls : Array Slot), LW s D cI cT cM cZ ad bd σ' μ' H locs → lv_has ls 4 [(0, .ref b), (1, .ref (ad 160)), (2, .ref (bd 0)), (3, .int (nI i))] → W p l e room_1 s m #[Value.ref b] below meth c H locs c0 s0 Q (F0 m 715 ls [])) (hw : LW s D cI cT cM cZ ad bd σ μ H locs) (hl : lv_has ls 4 [(0, .ref b), (1, .ref (ad 160)), (2, .ref (bd 0)), (3, .int (nI i))]) : W p l e room_1 s m #[Value.ref b] below meth c H locs c0 s0 Q (F0 m 277 ls []) := by
  obtain ⟨hx, hb, hml, hown, ht, hXc, hXm, hda, hdb, hA1, hB1, hdis, hXs, hbl, hL⟩ := C
  obtain ⟨hR, hP, hPm, hS⟩ := hw
  have hbA : ¬ (fun q : Nat => s.heap.size ≤ q) b := Nat.not_le.mpr hbl
  have in1 : vp_in (nI i + 1) L := by rw [show nI i + 1 = nI (i + 1) from nI_add i 1]; exact nI_nin (by omega) (by omega)
  obtain ⟨r, σ', μ', M1, M2, hR'⟩ := s_take (l := l) (D := D) (cI := cI) (cT := cT) (cM := cM) (cZ := cZ) hda hdb hR (xs (nI i + 1).toNatClampNeg)
  refine lv_aload_n hx hb dL_law_277 rfl (lv_at hl 1 rfl) ?_
  refine lv_aload_n hx hb dL_law_278 rfl (lv_at hl 0 rfl) ?_
  refine lv_iload_n hx hb dL_law_279 rfl (lv_at hl 3 rfl) ?_
  refine lv_iconst (v := 1) hx hb dL_law_280 (by decide) ?_
  refine lv_iadd hx hb dL_law_281 ?_
  refine va_sld hx hb hXs hbl hbA hS (in1) dL_law_282 ?_
  refine lw_cVi (As := [.int (xs (nI i + 1).toNatClampNeg)]) (rest := []) (wo := mwS cI cZ bd μ) M1 hx hb hml hown ht hXc hP hPm (no_m hdis μ) hA1 hS wX8_take kML_RL_35 rfl rfl ⟨Nat.le_of_ble_eq_true rfl, Nat.le_of_ble_eq_true rfl⟩ ⟨hc0, hs0⟩ (va_recv hXc.1 hP rfl cw_ri) rfl hl.1 rfl (Nat.le_of_ble_eq_true rfl) dL_law_283 (fun H locs hP hPm hS => ?_)
  refine lv_aload_n hx hb dL_law_286 rfl (lv_at hl 2 rfl) ?_
  refine lv_aload_n hx hb dL_law_287 rfl (lv_at hl 0 rfl) ?_
  refine lv_iload_n hx hb dL_law_288 rfl (lv_at hl 3 rfl) ?_
  refine lv_iconst (v := 1) hx hb dL_law_289 (by decide) ?_
  refine lv_iadd hx hb dL_law_290 ?_
  refine va_sld hx hb hXs hbl hbA hS (in1) dL_law_291 ?_
  refine lw_cVi (As := [.int (xs (nI i + 1).toNatClampNeg)]) (rest := [.int r]) (wo := cw cI cT cM ad σ') M2 hx hb hml hown ht hXm hPm hP (no_c hdis σ') hB1 hS wX9_take kML_RL_38 rfl rfl ⟨Nat.le_of_ble_eq_true rfl, Nat.le_of_ble_eq_true rfl⟩ ⟨hc0, hs0⟩ (va_recv hXm.1 hPm rfl mw_obj) rfl hl.1 rfl (Nat.le_of_ble_eq_true rfl) dL_law_292 (fun H locs hPm hP hS => ?_)
  exact lv_icmp_eq (tgt := 715) hx hb dL_law_295 (by decide) (fun _ => next σ' μ' H locs ls ⟨hR', hP, hPm, hS⟩ hl) (fun h => absurd rfl h)
set_option maxHeartbeats 4000000 in
theorem c_worth (C : LC p s m c D cI cT cM cZ ad bd b L xs) (hc0 : c0 ≤ room_1.cells) (hs0 : s0 ≤ room_1.slots) (hi : i + 4 ≤ L) (next : ∀ (σ' : Sig) (μ' : Mst) (H : Heap) (locs : List Loc) (ls : Array Slot), LW s D cI cT cM cZ ad bd σ' μ' H locs → lv_has ls 4 [(0, .ref b), (1, .ref (ad 160)), (2, .ref (bd 0)), (3, .int (nI i))] → W p l e room_1 s m #[Value.ref b] below meth c H locs c0 s0 Q (F0 m 715 ls [])) (hw : LW s D cI cT cM cZ ad bd σ μ H locs) (hl : lv_has ls 4 [(0, .ref b), (1, .ref (ad 160)), (2, .ref (bd 0)), (3, .int (nI i))]) : W p l e room_1 s m #[Value.ref b] below meth c H locs c0 s0 Q (F0 m 300 ls []) := by
  obtain ⟨hx, hb, hml, hown, ht, hXc, hXm, hda, hdb, hA1, hB1, hdis, hXs, hbl, hL⟩ := C
  obtain ⟨hR, hP, hPm, hS⟩ := hw
  have hbA : ¬ (fun q : Nat => s.heap.size ≤ q) b := Nat.not_le.mpr hbl
  have in1 : vp_in (nI i + 1) L := by rw [show nI i + 1 = nI (i + 1) from nI_add i 1]; exact nI_nin (by omega) (by omega)
  have in2 : vp_in (nI i + 2) L := by rw [show nI i + 2 = nI (i + 2) from nI_add i 2]; exact nI_nin (by omega) (by omega)
  obtain ⟨r, σ', μ', M1, M2, hR'⟩ := s_worth (l := l) (D := D) (cI := cI) (cT := cT) (cM := cM) (cZ := cZ) hda hdb hR (xs (nI i + 1).toNatClampNeg) (xs (nI i + 2).toNatClampNeg)
  refine lv_aload_n hx hb dL_law_300 rfl (lv_at hl 1 rfl) ?_
  refine lv_aload_n hx hb dL_law_301 rfl (lv_at hl 0 rfl) ?_
  refine lv_iload_n hx hb dL_law_302 rfl (lv_at hl 3 rfl) ?_
  refine lv_iconst (v := 1) hx hb dL_law_303 (by decide) ?_
  refine lv_iadd hx hb dL_law_304 ?_
  refine va_sld hx hb hXs hbl hbA hS (in1) dL_law_305 ?_
  refine lv_aload_n hx hb dL_law_306 rfl (lv_at hl 0 rfl) ?_
  refine lv_iload_n hx hb dL_law_307 rfl (lv_at hl 3 rfl) ?_
  refine lv_iconst (v := 2) hx hb dL_law_308 (by decide) ?_
  refine lv_iadd hx hb dL_law_309 ?_
  refine va_sld hx hb hXs hbl hbA hS (in2) dL_law_310 ?_
  refine lw_cVi (As := [.int (xs (nI i + 1).toNatClampNeg), .int (xs (nI i + 2).toNatClampNeg)]) (rest := []) (wo := mwS cI cZ bd μ) M1 hx hb hml hown ht hXc hP hPm (no_m hdis μ) hA1 hS wX8_worth kML_RL_39 rfl rfl ⟨Nat.le_of_ble_eq_true rfl, Nat.le_of_ble_eq_true rfl⟩ ⟨hc0, hs0⟩ (va_recv hXc.1 hP rfl cw_ri) rfl hl.1 rfl (Nat.le_of_ble_eq_true rfl) dL_law_311 (fun H locs hP hPm hS => ?_)
  refine lv_aload_n hx hb dL_law_314 rfl (lv_at hl 2 rfl) ?_
  refine lv_aload_n hx hb dL_law_315 rfl (lv_at hl 0 rfl) ?_
  refine lv_iload_n hx hb dL_law_316 rfl (lv_at hl 3 rfl) ?_
  refine lv_iconst (v := 1) hx hb dL_law_317 (by decide) ?_
  refine lv_iadd hx hb dL_law_318 ?_
  refine va_sld hx hb hXs hbl hbA hS (in1) dL_law_319 ?_
  refine lv_aload_n hx hb dL_law_320 rfl (lv_at hl 0 rfl) ?_
  refine lv_iload_n hx hb dL_law_321 rfl (lv_at hl 3 rfl) ?_
  refine lv_iconst (v := 2) hx hb dL_law_322 (by decide) ?_
  refine lv_iadd hx hb dL_law_323 ?_
  refine va_sld hx hb hXs hbl hbA hS (in2) dL_law_324 ?_
  refine lw_cVi (As := [.int (xs (nI i + 1).toNatClampNeg), .int (xs (nI i + 2).toNatClampNeg)]) (rest := [.int r]) (wo := cw cI cT cM ad σ') M2 hx hb hml hown ht hXm hPm hP (no_c hdis σ') hB1 hS wX9_worth kML_RL_42 rfl rfl ⟨Nat.le_of_ble_eq_true rfl, Nat.le_of_ble_eq_true rfl⟩ ⟨hc0, hs0⟩ (va_recv hXm.1 hPm rfl mw_obj) rfl hl.1 rfl (Nat.le_of_ble_eq_true rfl) dL_law_325 (fun H locs hPm hP hS => ?_)
  exact lv_icmp_eq (tgt := 715) hx hb dL_law_328 (by decide) (fun _ => next σ' μ' H locs ls ⟨hR', hP, hPm, hS⟩ hl) (fun h => absurd rfl h)
set_option maxHeartbeats 4000000 in
theorem c_cut (C : LC p s m c D cI cT cM cZ ad bd b L xs) (hc0 : c0 ≤ room_1.cells) (hs0 : s0 ≤ room_1.slots) (hi : i + 4 ≤ L) (next : ∀ (σ' : Sig) (μ' : Mst) (H : Heap) (locs : List Loc) (ls : Array Slot), LW s D cI cT cM cZ ad bd σ' μ' H locs → lv_has ls 4 [(0, .ref b), (1, .ref (ad 160)), (2, .ref (bd 0)), (3, .int (nI i))] → W p l e room_1 s m #[Value.ref b] below meth c H locs c0 s0 Q (F0 m 715 ls [])) (hw : LW s D cI cT cM cZ ad bd σ μ H locs) (hl : lv_has ls 4 [(0, .ref b), (1, .ref (ad 160)), (2, .ref (bd 0)), (3, .int (nI i))]) : W p l e room_1 s m #[Value.ref b] below meth c H locs c0 s0 Q (F0 m 333 ls []) := by
  obtain ⟨hx, hb, hml, hown, ht, hXc, hXm, hda, hdb, hA1, hB1, hdis, hXs, hbl, hL⟩ := C
  obtain ⟨hR, hP, hPm, hS⟩ := hw
  have hbA : ¬ (fun q : Nat => s.heap.size ≤ q) b := Nat.not_le.mpr hbl
  have in1 : vp_in (nI i + 1) L := by rw [show nI i + 1 = nI (i + 1) from nI_add i 1]; exact nI_nin (by omega) (by omega)
  obtain ⟨r, σ', μ', M1, M2, hR'⟩ := s_cut (l := l) (D := D) (cI := cI) (cT := cT) (cM := cM) (cZ := cZ) hda hdb hR (xs (nI i + 1).toNatClampNeg)
  refine lv_aload_n hx hb dL_law_333 rfl (lv_at hl 1 rfl) ?_
  refine lv_aload_n hx hb dL_law_334 rfl (lv_at hl 0 rfl) ?_
  refine lv_iload_n hx hb dL_law_335 rfl (lv_at hl 3 rfl) ?_
  refine lv_iconst (v := 1) hx hb dL_law_336 (by decide) ?_
  refine lv_iadd hx hb dL_law_337 ?_
  refine va_sld hx hb hXs hbl hbA hS (in1) dL_law_338 ?_
  refine lw_cVi (As := [.int (xs (nI i + 1).toNatClampNeg)]) (rest := []) (wo := mwS cI cZ bd μ) M1 hx hb hml hown ht hXc hP hPm (no_m hdis μ) hA1 hS wX8_cut kML_RL_43 rfl rfl ⟨Nat.le_of_ble_eq_true rfl, Nat.le_of_ble_eq_true rfl⟩ ⟨hc0, hs0⟩ (va_recv hXc.1 hP rfl cw_ri) rfl hl.1 rfl (Nat.le_of_ble_eq_true rfl) dL_law_339 (fun H locs hP hPm hS => ?_)
  refine lv_aload_n hx hb dL_law_342 rfl (lv_at hl 2 rfl) ?_
  refine lv_aload_n hx hb dL_law_343 rfl (lv_at hl 0 rfl) ?_
  refine lv_iload_n hx hb dL_law_344 rfl (lv_at hl 3 rfl) ?_
  refine lv_iconst (v := 1) hx hb dL_law_345 (by decide) ?_
  refine lv_iadd hx hb dL_law_346 ?_
  refine va_sld hx hb hXs hbl hbA hS (in1) dL_law_347 ?_
  refine lw_cVi (As := [.int (xs (nI i + 1).toNatClampNeg)]) (rest := [.int r]) (wo := cw cI cT cM ad σ') M2 hx hb hml hown ht hXm hPm hP (no_c hdis σ') hB1 hS wX9_cut kML_RL_46 rfl rfl ⟨Nat.le_of_ble_eq_true rfl, Nat.le_of_ble_eq_true rfl⟩ ⟨hc0, hs0⟩ (va_recv hXm.1 hPm rfl mw_obj) rfl hl.1 rfl (Nat.le_of_ble_eq_true rfl) dL_law_348 (fun H locs hPm hP hS => ?_)
  exact lv_icmp_eq (tgt := 715) hx hb dL_law_351 (by decide) (fun _ => next σ' μ' H locs ls ⟨hR', hP, hPm, hS⟩ hl) (fun h => absurd rfl h)
set_option maxHeartbeats 4000000 in
theorem c_batch (C : LC p s m c D cI cT cM cZ ad bd b L xs) (hc0 : c0 ≤ room_1.cells) (hs0 : s0 ≤ room_1.slots) (hi : i + 4 ≤ L) (next : ∀ (σ' : Sig) (μ' : Mst) (H : Heap) (locs : List Loc) (ls : Array Slot), LW s D cI cT cM cZ ad bd σ' μ' H locs → lv_has ls 4 [(0, .ref b), (1, .ref (ad 160)), (2, .ref (bd 0)), (3, .int (nI i))] → W p l e room_1 s m #[Value.ref b] below meth c H locs c0 s0 Q (F0 m 715 ls [])) (hw : LW s D cI cT cM cZ ad bd σ μ H locs) (hl : lv_has ls 4 [(0, .ref b), (1, .ref (ad 160)), (2, .ref (bd 0)), (3, .int (nI i))]) : W p l e room_1 s m #[Value.ref b] below meth c H locs c0 s0 Q (F0 m 356 ls []) := by
  obtain ⟨hx, hb, hml, hown, ht, hXc, hXm, hda, hdb, hA1, hB1, hdis, hXs, hbl, hL⟩ := C
  obtain ⟨hR, hP, hPm, hS⟩ := hw
  have hbA : ¬ (fun q : Nat => s.heap.size ≤ q) b := Nat.not_le.mpr hbl
  have in1 : vp_in (nI i + 1) L := by rw [show nI i + 1 = nI (i + 1) from nI_add i 1]; exact nI_nin (by omega) (by omega)
  have in2 : vp_in (nI i + 2) L := by rw [show nI i + 2 = nI (i + 2) from nI_add i 2]; exact nI_nin (by omega) (by omega)
  have in3 : vp_in (nI i + 3) L := by rw [show nI i + 3 = nI (i + 3) from nI_add i 3]; exact nI_nin (by omega) (by omega)
  obtain ⟨r, σ', μ', M1, M2, hR'⟩ := s_batch (l := l) (D := D) (cI := cI) (cT := cT) (cM := cM) (cZ := cZ) hda hdb hR (xs (nI i + 1).toNatClampNeg) (xs (nI i + 2).toNatClampNeg) (xs (nI i + 3).toNatClampNeg)
  refine lv_aload_n hx hb dL_law_356 rfl (lv_at hl 1 rfl) ?_
  refine lv_aload_n hx hb dL_law_357 rfl (lv_at hl 0 rfl) ?_
  refine lv_iload_n hx hb dL_law_358 rfl (lv_at hl 3 rfl) ?_
  refine lv_iconst (v := 1) hx hb dL_law_359 (by decide) ?_
  refine lv_iadd hx hb dL_law_360 ?_
  refine va_sld hx hb hXs hbl hbA hS (in1) dL_law_361 ?_
  refine lv_aload_n hx hb dL_law_362 rfl (lv_at hl 0 rfl) ?_
  refine lv_iload_n hx hb dL_law_363 rfl (lv_at hl 3 rfl) ?_
  refine lv_iconst (v := 2) hx hb dL_law_364 (by decide) ?_
  refine lv_iadd hx hb dL_law_365 ?_
  refine va_sld hx hb hXs hbl hbA hS (in2) dL_law_366 ?_
  refine lv_aload_n hx hb dL_law_367 rfl (lv_at hl 0 rfl) ?_
  refine lv_iload_n hx hb dL_law_368 rfl (lv_at hl 3 rfl) ?_
  refine lv_iconst (v := 3) hx hb dL_law_369 (by decide) ?_
  refine lv_iadd hx hb dL_law_370 ?_
  refine va_sld hx hb hXs hbl hbA hS (in3) dL_law_371 ?_
  refine lw_cVi (As := [.int (xs (nI i + 1).toNatClampNeg), .int (xs (nI i + 2).toNatClampNeg), .int (xs (nI i + 3).toNatClampNeg)]) (rest := []) (wo := mwS cI cZ bd μ) M1 hx hb hml hown ht hXc hP hPm (no_m hdis μ) hA1 hS wX8_batch kML_RL_47 rfl rfl ⟨Nat.le_of_ble_eq_true rfl, Nat.le_of_ble_eq_true rfl⟩ ⟨hc0, hs0⟩ (va_recv hXc.1 hP rfl cw_ri) rfl hl.1 rfl (Nat.le_of_ble_eq_true rfl) dL_law_372 (fun H locs hP hPm hS => ?_)
  refine lv_aload_n hx hb dL_law_375 rfl (lv_at hl 2 rfl) ?_
  refine lv_aload_n hx hb dL_law_376 rfl (lv_at hl 0 rfl) ?_
  refine lv_iload_n hx hb dL_law_377 rfl (lv_at hl 3 rfl) ?_
  refine lv_iconst (v := 1) hx hb dL_law_378 (by decide) ?_
  refine lv_iadd hx hb dL_law_379 ?_
  refine va_sld hx hb hXs hbl hbA hS (in1) dL_law_380 ?_
  refine lv_aload_n hx hb dL_law_381 rfl (lv_at hl 0 rfl) ?_
  refine lv_iload_n hx hb dL_law_382 rfl (lv_at hl 3 rfl) ?_
  refine lv_iconst (v := 2) hx hb dL_law_383 (by decide) ?_
  refine lv_iadd hx hb dL_law_384 ?_
  refine va_sld hx hb hXs hbl hbA hS (in2) dL_law_385 ?_
  refine lv_aload_n hx hb dL_law_386 rfl (lv_at hl 0 rfl) ?_
  refine lv_iload_n hx hb dL_law_387 rfl (lv_at hl 3 rfl) ?_
  refine lv_iconst (v := 3) hx hb dL_law_388 (by decide) ?_
  refine lv_iadd hx hb dL_law_389 ?_
  refine va_sld hx hb hXs hbl hbA hS (in3) dL_law_390 ?_
  refine lw_cVi (As := [.int (xs (nI i + 1).toNatClampNeg), .int (xs (nI i + 2).toNatClampNeg), .int (xs (nI i + 3).toNatClampNeg)]) (rest := [.int r]) (wo := cw cI cT cM ad σ') M2 hx hb hml hown ht hXm hPm hP (no_c hdis σ') hB1 hS wX9_batch kML_RL_51 rfl rfl ⟨Nat.le_of_ble_eq_true rfl, Nat.le_of_ble_eq_true rfl⟩ ⟨hc0, hs0⟩ (va_recv hXm.1 hPm rfl mw_obj) rfl hl.1 rfl (Nat.le_of_ble_eq_true rfl) dL_law_391 (fun H locs hPm hP hS => ?_)
  exact lv_icmp_eq (tgt := 715) hx hb dL_law_394 (by decide) (fun _ => next σ' μ' H locs ls ⟨hR', hP, hPm, hS⟩ hl) (fun h => absurd rfl h)
set_option maxHeartbeats 4000000 in
theorem c_rebuild (C : LC p s m c D cI cT cM cZ ad bd b L xs) (hc0 : c0 ≤ room_1.cells) (hs0 : s0 ≤ room_1.slots) (hi : i + 4 ≤ L) (next : ∀ (σ' : Sig) (μ' : Mst) (H : Heap) (locs : List Loc) (ls : Array Slot), LW s D cI cT cM cZ ad bd σ' μ' H locs → lv_has ls 4 [(0, .ref b), (1, .ref (ad 160)), (2, .ref (bd 0)), (3, .int (nI i))] → W p l e room_1 s m #[Value.ref b] below meth c H locs c0 s0 Q (F0 m 715 ls [])) (hw : LW s D cI cT cM cZ ad bd σ μ H locs) (hl : lv_has ls 4 [(0, .ref b), (1, .ref (ad 160)), (2, .ref (bd 0)), (3, .int (nI i))]) : W p l e room_1 s m #[Value.ref b] below meth c H locs c0 s0 Q (F0 m 399 ls []) := by
  obtain ⟨hx, hb, hml, hown, ht, hXc, hXm, hda, hdb, hA1, hB1, hdis, hXs, hbl, hL⟩ := C
  obtain ⟨hR, hP, hPm, hS⟩ := hw
  have hbA : ¬ (fun q : Nat => s.heap.size ≤ q) b := Nat.not_le.mpr hbl
  obtain ⟨r, σ', μ', M1, M2, hR'⟩ := s_rebuild (l := l) (D := D) (cI := cI) (cT := cT) (cM := cM) (cZ := cZ) hda hdb hR 
  refine lv_aload_n hx hb dL_law_399 rfl (lv_at hl 1 rfl) ?_
  refine lw_cVi (As := []) (rest := []) (wo := mwS cI cZ bd μ) M1 hx hb hml hown ht hXc hP hPm (no_m hdis μ) hA1 hS wX8_rebuild kML_RL_52 rfl rfl ⟨Nat.le_of_ble_eq_true rfl, Nat.le_of_ble_eq_true rfl⟩ ⟨hc0, hs0⟩ (va_recv hXc.1 hP rfl cw_ri) rfl hl.1 rfl (Nat.le_of_ble_eq_true rfl) dL_law_400 (fun H locs hP hPm hS => ?_)
  refine lv_aload_n hx hb dL_law_403 rfl (lv_at hl 2 rfl) ?_
  refine lw_cVi (As := []) (rest := [.int r]) (wo := cw cI cT cM ad σ') M2 hx hb hml hown ht hXm hPm hP (no_c hdis σ') hB1 hS wX9_rebuild kML_RL_56 rfl rfl ⟨Nat.le_of_ble_eq_true rfl, Nat.le_of_ble_eq_true rfl⟩ ⟨hc0, hs0⟩ (va_recv hXm.1 hPm rfl mw_obj) rfl hl.1 rfl (Nat.le_of_ble_eq_true rfl) dL_law_404 (fun H locs hPm hP hS => ?_)
  exact lv_icmp_eq (tgt := 715) hx hb dL_law_407 (by decide) (fun _ => next σ' μ' H locs ls ⟨hR', hP, hPm, hS⟩ hl) (fun h => absurd rfl h)
set_option maxHeartbeats 4000000 in
theorem c_join (C : LC p s m c D cI cT cM cZ ad bd b L xs) (hc0 : c0 ≤ room_1.cells) (hs0 : s0 ≤ room_1.slots) (hi : i + 4 ≤ L) (next : ∀ (σ' : Sig) (μ' : Mst) (H : Heap) (locs : List Loc) (ls : Array Slot), LW s D cI cT cM cZ ad bd σ' μ' H locs → lv_has ls 4 [(0, .ref b), (1, .ref (ad 160)), (2, .ref (bd 0)), (3, .int (nI i))] → W p l e room_1 s m #[Value.ref b] below meth c H locs c0 s0 Q (F0 m 715 ls [])) (hw : LW s D cI cT cM cZ ad bd σ μ H locs) (hl : lv_has ls 4 [(0, .ref b), (1, .ref (ad 160)), (2, .ref (bd 0)), (3, .int (nI i))]) : W p l e room_1 s m #[Value.ref b] below meth c H locs c0 s0 Q (F0 m 412 ls []) := by
  obtain ⟨hx, hb, hml, hown, ht, hXc, hXm, hda, hdb, hA1, hB1, hdis, hXs, hbl, hL⟩ := C
  obtain ⟨hR, hP, hPm, hS⟩ := hw
  have hbA : ¬ (fun q : Nat => s.heap.size ≤ q) b := Nat.not_le.mpr hbl
  have in1 : vp_in (nI i + 1) L := by rw [show nI i + 1 = nI (i + 1) from nI_add i 1]; exact nI_nin (by omega) (by omega)
  obtain ⟨r, σ', μ', M1, M2, hR'⟩ := s_join (l := l) (D := D) (cI := cI) (cT := cT) (cM := cM) (cZ := cZ) hda hdb hR (xs (nI i + 1).toNatClampNeg)
  refine lv_aload_n hx hb dL_law_412 rfl (lv_at hl 1 rfl) ?_
  refine lv_aload_n hx hb dL_law_413 rfl (lv_at hl 0 rfl) ?_
  refine lv_iload_n hx hb dL_law_414 rfl (lv_at hl 3 rfl) ?_
  refine lv_iconst (v := 1) hx hb dL_law_415 (by decide) ?_
  refine lv_iadd hx hb dL_law_416 ?_
  refine va_sld hx hb hXs hbl hbA hS (in1) dL_law_417 ?_
  refine lw_cVi (As := [.int (xs (nI i + 1).toNatClampNeg)]) (rest := []) (wo := mwS cI cZ bd μ) M1 hx hb hml hown ht hXc hP hPm (no_m hdis μ) hA1 hS wX8_join kML_RL_57 rfl rfl ⟨Nat.le_of_ble_eq_true rfl, Nat.le_of_ble_eq_true rfl⟩ ⟨hc0, hs0⟩ (va_recv hXc.1 hP rfl cw_ri) rfl hl.1 rfl (Nat.le_of_ble_eq_true rfl) dL_law_418 (fun H locs hP hPm hS => ?_)
  refine lv_aload_n hx hb dL_law_421 rfl (lv_at hl 2 rfl) ?_
  refine lv_aload_n hx hb dL_law_422 rfl (lv_at hl 0 rfl) ?_
  refine lv_iload_n hx hb dL_law_423 rfl (lv_at hl 3 rfl) ?_
  refine lv_iconst (v := 1) hx hb dL_law_424 (by decide) ?_
  refine lv_iadd hx hb dL_law_425 ?_
  refine va_sld hx hb hXs hbl hbA hS (in1) dL_law_426 ?_
  refine lw_cVi (As := [.int (xs (nI i + 1).toNatClampNeg)]) (rest := [.int r]) (wo := cw cI cT cM ad σ') M2 hx hb hml hown ht hXm hPm hP (no_c hdis σ') hB1 hS wX9_join kML_RL_60 rfl rfl ⟨Nat.le_of_ble_eq_true rfl, Nat.le_of_ble_eq_true rfl⟩ ⟨hc0, hs0⟩ (va_recv hXm.1 hPm rfl mw_obj) rfl hl.1 rfl (Nat.le_of_ble_eq_true rfl) dL_law_427 (fun H locs hPm hP hS => ?_)
  exact lv_icmp_eq (tgt := 715) hx hb dL_law_430 (by decide) (fun _ => next σ' μ' H locs ls ⟨hR', hP, hPm, hS⟩ hl) (fun h => absurd rfl h)
set_option maxHeartbeats 4000000 in
theorem c_drift (C : LC p s m c D cI cT cM cZ ad bd b L xs) (hc0 : c0 ≤ room_1.cells) (hs0 : s0 ≤ room_1.slots) (hi : i + 4 ≤ L) (next : ∀ (σ' : Sig) (μ' : Mst) (H : Heap) (locs : List Loc) (ls : Array Slot), LW s D cI cT cM cZ ad bd σ' μ' H locs → lv_has ls 4 [(0, .ref b), (1, .ref (ad 160)), (2, .ref (bd 0)), (3, .int (nI i))] → W p l e room_1 s m #[Value.ref b] below meth c H locs c0 s0 Q (F0 m 715 ls [])) (hw : LW s D cI cT cM cZ ad bd σ μ H locs) (hl : lv_has ls 4 [(0, .ref b), (1, .ref (ad 160)), (2, .ref (bd 0)), (3, .int (nI i))]) : W p l e room_1 s m #[Value.ref b] below meth c H locs c0 s0 Q (F0 m 435 ls []) := by
  obtain ⟨hx, hb, hml, hown, ht, hXc, hXm, hda, hdb, hA1, hB1, hdis, hXs, hbl, hL⟩ := C
  obtain ⟨hR, hP, hPm, hS⟩ := hw
  have hbA : ¬ (fun q : Nat => s.heap.size ≤ q) b := Nat.not_le.mpr hbl
  have in1 : vp_in (nI i + 1) L := by rw [show nI i + 1 = nI (i + 1) from nI_add i 1]; exact nI_nin (by omega) (by omega)
  obtain ⟨r, σ', μ', M1, M2, hR'⟩ := s_drift (l := l) (D := D) (cI := cI) (cT := cT) (cM := cM) (cZ := cZ) hda hdb hR (xs (nI i + 1).toNatClampNeg)
  refine lv_aload_n hx hb dL_law_435 rfl (lv_at hl 1 rfl) ?_
  refine lv_aload_n hx hb dL_law_436 rfl (lv_at hl 0 rfl) ?_
  refine lv_iload_n hx hb dL_law_437 rfl (lv_at hl 3 rfl) ?_
  refine lv_iconst (v := 1) hx hb dL_law_438 (by decide) ?_
  refine lv_iadd hx hb dL_law_439 ?_
  refine va_sld hx hb hXs hbl hbA hS (in1) dL_law_440 ?_
  refine lw_cVi (As := [.int (xs (nI i + 1).toNatClampNeg)]) (rest := []) (wo := mwS cI cZ bd μ) M1 hx hb hml hown ht hXc hP hPm (no_m hdis μ) hA1 hS wX8_drift kML_RL_61 rfl rfl ⟨Nat.le_of_ble_eq_true rfl, Nat.le_of_ble_eq_true rfl⟩ ⟨hc0, hs0⟩ (va_recv hXc.1 hP rfl cw_ri) rfl hl.1 rfl (Nat.le_of_ble_eq_true rfl) dL_law_441 (fun H locs hP hPm hS => ?_)
  refine lv_aload_n hx hb dL_law_444 rfl (lv_at hl 2 rfl) ?_
  refine lv_aload_n hx hb dL_law_445 rfl (lv_at hl 0 rfl) ?_
  refine lv_iload_n hx hb dL_law_446 rfl (lv_at hl 3 rfl) ?_
  refine lv_iconst (v := 1) hx hb dL_law_447 (by decide) ?_
  refine lv_iadd hx hb dL_law_448 ?_
  refine va_sld hx hb hXs hbl hbA hS (in1) dL_law_449 ?_
  refine lw_cVi (As := [.int (xs (nI i + 1).toNatClampNeg)]) (rest := [.int r]) (wo := cw cI cT cM ad σ') M2 hx hb hml hown ht hXm hPm hP (no_c hdis σ') hB1 hS wX9_drift kML_RL_64 rfl rfl ⟨Nat.le_of_ble_eq_true rfl, Nat.le_of_ble_eq_true rfl⟩ ⟨hc0, hs0⟩ (va_recv hXm.1 hPm rfl mw_obj) rfl hl.1 rfl (Nat.le_of_ble_eq_true rfl) dL_law_450 (fun H locs hPm hP hS => ?_)
  exact lv_icmp_eq (tgt := 715) hx hb dL_law_453 (by decide) (fun _ => next σ' μ' H locs ls ⟨hR', hP, hPm, hS⟩ hl) (fun h => absurd rfl h)
set_option maxHeartbeats 4000000 in
theorem c_undo (C : LC p s m c D cI cT cM cZ ad bd b L xs) (hc0 : c0 ≤ room_1.cells) (hs0 : s0 ≤ room_1.slots) (hi : i + 4 ≤ L) (next : ∀ (σ' : Sig) (μ' : Mst) (H : Heap) (locs : List Loc) (ls : Array Slot), LW s D cI cT cM cZ ad bd σ' μ' H locs → lv_has ls 4 [(0, .ref b), (1, .ref (ad 160)), (2, .ref (bd 0)), (3, .int (nI i))] → W p l e room_1 s m #[Value.ref b] below meth c H locs c0 s0 Q (F0 m 715 ls [])) (hw : LW s D cI cT cM cZ ad bd σ μ H locs) (hl : lv_has ls 4 [(0, .ref b), (1, .ref (ad 160)), (2, .ref (bd 0)), (3, .int (nI i))]) : W p l e room_1 s m #[Value.ref b] below meth c H locs c0 s0 Q (F0 m 458 ls []) := by
  obtain ⟨hx, hb, hml, hown, ht, hXc, hXm, hda, hdb, hA1, hB1, hdis, hXs, hbl, hL⟩ := C
  obtain ⟨hR, hP, hPm, hS⟩ := hw
  have hbA : ¬ (fun q : Nat => s.heap.size ≤ q) b := Nat.not_le.mpr hbl
  have in1 : vp_in (nI i + 1) L := by rw [show nI i + 1 = nI (i + 1) from nI_add i 1]; exact nI_nin (by omega) (by omega)
  obtain ⟨r, σ', μ', M1, M2, hR'⟩ := s_undo (l := l) (D := D) (cI := cI) (cT := cT) (cM := cM) (cZ := cZ) hda hdb hR (xs (nI i + 1).toNatClampNeg)
  refine lv_aload_n hx hb dL_law_458 rfl (lv_at hl 1 rfl) ?_
  refine lv_aload_n hx hb dL_law_459 rfl (lv_at hl 0 rfl) ?_
  refine lv_iload_n hx hb dL_law_460 rfl (lv_at hl 3 rfl) ?_
  refine lv_iconst (v := 1) hx hb dL_law_461 (by decide) ?_
  refine lv_iadd hx hb dL_law_462 ?_
  refine va_sld hx hb hXs hbl hbA hS (in1) dL_law_463 ?_
  refine lw_cVi (As := [.int (xs (nI i + 1).toNatClampNeg)]) (rest := []) (wo := mwS cI cZ bd μ) M1 hx hb hml hown ht hXc hP hPm (no_m hdis μ) hA1 hS wX8_undo kML_RL_65 rfl rfl ⟨Nat.le_of_ble_eq_true rfl, Nat.le_of_ble_eq_true rfl⟩ ⟨hc0, hs0⟩ (va_recv hXc.1 hP rfl cw_ri) rfl hl.1 rfl (Nat.le_of_ble_eq_true rfl) dL_law_464 (fun H locs hP hPm hS => ?_)
  refine lv_aload_n hx hb dL_law_467 rfl (lv_at hl 2 rfl) ?_
  refine lv_aload_n hx hb dL_law_468 rfl (lv_at hl 0 rfl) ?_
  refine lv_iload_n hx hb dL_law_469 rfl (lv_at hl 3 rfl) ?_
  refine lv_iconst (v := 1) hx hb dL_law_470 (by decide) ?_
  refine lv_iadd hx hb dL_law_471 ?_
  refine va_sld hx hb hXs hbl hbA hS (in1) dL_law_472 ?_
  refine lw_cVi (As := [.int (xs (nI i + 1).toNatClampNeg)]) (rest := [.int r]) (wo := cw cI cT cM ad σ') M2 hx hb hml hown ht hXm hPm hP (no_c hdis σ') hB1 hS wX9_undo kML_RL_68 rfl rfl ⟨Nat.le_of_ble_eq_true rfl, Nat.le_of_ble_eq_true rfl⟩ ⟨hc0, hs0⟩ (va_recv hXm.1 hPm rfl mw_obj) rfl hl.1 rfl (Nat.le_of_ble_eq_true rfl) dL_law_473 (fun H locs hPm hP hS => ?_)
  exact lv_icmp_eq (tgt := 715) hx hb dL_law_476 (by decide) (fun _ => next σ' μ' H locs ls ⟨hR', hP, hPm, hS⟩ hl) (fun h => absurd rfl h)
set_option maxHeartbeats 4000000 in
theorem c_less (C : LC p s m c D cI cT cM cZ ad bd b L xs) (hc0 : c0 ≤ room_1.cells) (hs0 : s0 ≤ room_1.slots) (hi : i + 4 ≤ L) (next : ∀ (σ' : Sig) (μ' : Mst) (H : Heap) (locs : List Loc) (ls : Array Slot), LW s D cI cT cM cZ ad bd σ' μ' H locs → lv_has ls 4 [(0, .ref b), (1, .ref (ad 160)), (2, .ref (bd 0)), (3, .int (nI i))] → W p l e room_1 s m #[Value.ref b] below meth c H locs c0 s0 Q (F0 m 715 ls [])) (hw : LW s D cI cT cM cZ ad bd σ μ H locs) (hl : lv_has ls 4 [(0, .ref b), (1, .ref (ad 160)), (2, .ref (bd 0)), (3, .int (nI i))]) : W p l e room_1 s m #[Value.ref b] below meth c H locs c0 s0 Q (F0 m 481 ls []) := by
  obtain ⟨hx, hb, hml, hown, ht, hXc, hXm, hda, hdb, hA1, hB1, hdis, hXs, hbl, hL⟩ := C
  obtain ⟨hR, hP, hPm, hS⟩ := hw
  have hbA : ¬ (fun q : Nat => s.heap.size ≤ q) b := Nat.not_le.mpr hbl
  have in1 : vp_in (nI i + 1) L := by rw [show nI i + 1 = nI (i + 1) from nI_add i 1]; exact nI_nin (by omega) (by omega)
  obtain ⟨r, σ', μ', M1, M2, hR'⟩ := s_less (l := l) (D := D) (cI := cI) (cT := cT) (cM := cM) (cZ := cZ) hda hdb hR (xs (nI i + 1).toNatClampNeg)
  refine lv_aload_n hx hb dL_law_481 rfl (lv_at hl 1 rfl) ?_
  refine lv_aload_n hx hb dL_law_482 rfl (lv_at hl 0 rfl) ?_
  refine lv_iload_n hx hb dL_law_483 rfl (lv_at hl 3 rfl) ?_
  refine lv_iconst (v := 1) hx hb dL_law_484 (by decide) ?_
  refine lv_iadd hx hb dL_law_485 ?_
  refine va_sld hx hb hXs hbl hbA hS (in1) dL_law_486 ?_
  refine lw_cVi (As := [.int (xs (nI i + 1).toNatClampNeg)]) (rest := []) (wo := mwS cI cZ bd μ) M1 hx hb hml hown ht hXc hP hPm (no_m hdis μ) hA1 hS wX8_less kML_RL_69 rfl rfl ⟨Nat.le_of_ble_eq_true rfl, Nat.le_of_ble_eq_true rfl⟩ ⟨hc0, hs0⟩ (va_recv hXc.1 hP rfl cw_ri) rfl hl.1 rfl (Nat.le_of_ble_eq_true rfl) dL_law_487 (fun H locs hP hPm hS => ?_)
  refine lv_aload_n hx hb dL_law_490 rfl (lv_at hl 2 rfl) ?_
  refine lv_aload_n hx hb dL_law_491 rfl (lv_at hl 0 rfl) ?_
  refine lv_iload_n hx hb dL_law_492 rfl (lv_at hl 3 rfl) ?_
  refine lv_iconst (v := 1) hx hb dL_law_493 (by decide) ?_
  refine lv_iadd hx hb dL_law_494 ?_
  refine va_sld hx hb hXs hbl hbA hS (in1) dL_law_495 ?_
  refine lw_cVi (As := [.int (xs (nI i + 1).toNatClampNeg)]) (rest := [.int r]) (wo := cw cI cT cM ad σ') M2 hx hb hml hown ht hXm hPm hP (no_c hdis σ') hB1 hS wX9_less kML_RL_72 rfl rfl ⟨Nat.le_of_ble_eq_true rfl, Nat.le_of_ble_eq_true rfl⟩ ⟨hc0, hs0⟩ (va_recv hXm.1 hPm rfl mw_obj) rfl hl.1 rfl (Nat.le_of_ble_eq_true rfl) dL_law_496 (fun H locs hPm hP hS => ?_)
  exact lv_icmp_eq (tgt := 715) hx hb dL_law_499 (by decide) (fun _ => next σ' μ' H locs ls ⟨hR', hP, hPm, hS⟩ hl) (fun h => absurd rfl h)
set_option maxHeartbeats 4000000 in
theorem c_beside (C : LC p s m c D cI cT cM cZ ad bd b L xs) (hc0 : c0 ≤ room_1.cells) (hs0 : s0 ≤ room_1.slots) (hi : i + 4 ≤ L) (next : ∀ (σ' : Sig) (μ' : Mst) (H : Heap) (locs : List Loc) (ls : Array Slot), LW s D cI cT cM cZ ad bd σ' μ' H locs → lv_has ls 4 [(0, .ref b), (1, .ref (ad 160)), (2, .ref (bd 0)), (3, .int (nI i))] → W p l e room_1 s m #[Value.ref b] below meth c H locs c0 s0 Q (F0 m 715 ls [])) (hw : LW s D cI cT cM cZ ad bd σ μ H locs) (hl : lv_has ls 4 [(0, .ref b), (1, .ref (ad 160)), (2, .ref (bd 0)), (3, .int (nI i))]) : W p l e room_1 s m #[Value.ref b] below meth c H locs c0 s0 Q (F0 m 504 ls []) := by
  obtain ⟨hx, hb, hml, hown, ht, hXc, hXm, hda, hdb, hA1, hB1, hdis, hXs, hbl, hL⟩ := C
  obtain ⟨hR, hP, hPm, hS⟩ := hw
  have hbA : ¬ (fun q : Nat => s.heap.size ≤ q) b := Nat.not_le.mpr hbl
  have in1 : vp_in (nI i + 1) L := by rw [show nI i + 1 = nI (i + 1) from nI_add i 1]; exact nI_nin (by omega) (by omega)
  have in2 : vp_in (nI i + 2) L := by rw [show nI i + 2 = nI (i + 2) from nI_add i 2]; exact nI_nin (by omega) (by omega)
  obtain ⟨r, σ', μ', M1, M2, hR'⟩ := s_beside (l := l) (D := D) (cI := cI) (cT := cT) (cM := cM) (cZ := cZ) hda hdb hR (xs (nI i + 1).toNatClampNeg) (xs (nI i + 2).toNatClampNeg)
  refine lv_aload_n hx hb dL_law_504 rfl (lv_at hl 1 rfl) ?_
  refine lv_aload_n hx hb dL_law_505 rfl (lv_at hl 0 rfl) ?_
  refine lv_iload_n hx hb dL_law_506 rfl (lv_at hl 3 rfl) ?_
  refine lv_iconst (v := 1) hx hb dL_law_507 (by decide) ?_
  refine lv_iadd hx hb dL_law_508 ?_
  refine va_sld hx hb hXs hbl hbA hS (in1) dL_law_509 ?_
  refine lv_aload_n hx hb dL_law_510 rfl (lv_at hl 0 rfl) ?_
  refine lv_iload_n hx hb dL_law_511 rfl (lv_at hl 3 rfl) ?_
  refine lv_iconst (v := 2) hx hb dL_law_512 (by decide) ?_
  refine lv_iadd hx hb dL_law_513 ?_
  refine va_sld hx hb hXs hbl hbA hS (in2) dL_law_514 ?_
  refine lw_cVi (As := [.int (xs (nI i + 1).toNatClampNeg), .int (xs (nI i + 2).toNatClampNeg)]) (rest := []) (wo := mwS cI cZ bd μ) M1 hx hb hml hown ht hXc hP hPm (no_m hdis μ) hA1 hS wX8_beside kML_RL_73 rfl rfl ⟨Nat.le_of_ble_eq_true rfl, Nat.le_of_ble_eq_true rfl⟩ ⟨hc0, hs0⟩ (va_recv hXc.1 hP rfl cw_ri) rfl hl.1 rfl (Nat.le_of_ble_eq_true rfl) dL_law_515 (fun H locs hP hPm hS => ?_)
  refine lv_aload_n hx hb dL_law_518 rfl (lv_at hl 2 rfl) ?_
  refine lv_aload_n hx hb dL_law_519 rfl (lv_at hl 0 rfl) ?_
  refine lv_iload_n hx hb dL_law_520 rfl (lv_at hl 3 rfl) ?_
  refine lv_iconst (v := 1) hx hb dL_law_521 (by decide) ?_
  refine lv_iadd hx hb dL_law_522 ?_
  refine va_sld hx hb hXs hbl hbA hS (in1) dL_law_523 ?_
  refine lv_aload_n hx hb dL_law_524 rfl (lv_at hl 0 rfl) ?_
  refine lv_iload_n hx hb dL_law_525 rfl (lv_at hl 3 rfl) ?_
  refine lv_iconst (v := 2) hx hb dL_law_526 (by decide) ?_
  refine lv_iadd hx hb dL_law_527 ?_
  refine va_sld hx hb hXs hbl hbA hS (in2) dL_law_528 ?_
  refine lw_cVi (As := [.int (xs (nI i + 1).toNatClampNeg), .int (xs (nI i + 2).toNatClampNeg)]) (rest := [.int r]) (wo := cw cI cT cM ad σ') M2 hx hb hml hown ht hXm hPm hP (no_c hdis σ') hB1 hS wX9_beside kML_RL_76 rfl rfl ⟨Nat.le_of_ble_eq_true rfl, Nat.le_of_ble_eq_true rfl⟩ ⟨hc0, hs0⟩ (va_recv hXm.1 hPm rfl mw_obj) rfl hl.1 rfl (Nat.le_of_ble_eq_true rfl) dL_law_529 (fun H locs hPm hP hS => ?_)
  exact lv_icmp_eq (tgt := 715) hx hb dL_law_532 (by decide) (fun _ => next σ' μ' H locs ls ⟨hR', hP, hPm, hS⟩ hl) (fun h => absurd rfl h)
set_option maxHeartbeats 4000000 in
theorem c_between (C : LC p s m c D cI cT cM cZ ad bd b L xs) (hc0 : c0 ≤ room_1.cells) (hs0 : s0 ≤ room_1.slots) (hi : i + 4 ≤ L) (next : ∀ (σ' : Sig) (μ' : Mst) (H : Heap) (locs : List Loc) (ls : Array Slot), LW s D cI cT cM cZ ad bd σ' μ' H locs → lv_has ls 4 [(0, .ref b), (1, .ref (ad 160)), (2, .ref (bd 0)), (3, .int (nI i))] → W p l e room_1 s m #[Value.ref b] below meth c H locs c0 s0 Q (F0 m 715 ls [])) (hw : LW s D cI cT cM cZ ad bd σ μ H locs) (hl : lv_has ls 4 [(0, .ref b), (1, .ref (ad 160)), (2, .ref (bd 0)), (3, .int (nI i))]) : W p l e room_1 s m #[Value.ref b] below meth c H locs c0 s0 Q (F0 m 537 ls []) := by
  obtain ⟨hx, hb, hml, hown, ht, hXc, hXm, hda, hdb, hA1, hB1, hdis, hXs, hbl, hL⟩ := C
  obtain ⟨hR, hP, hPm, hS⟩ := hw
  have hbA : ¬ (fun q : Nat => s.heap.size ≤ q) b := Nat.not_le.mpr hbl
  have in1 : vp_in (nI i + 1) L := by rw [show nI i + 1 = nI (i + 1) from nI_add i 1]; exact nI_nin (by omega) (by omega)
  have in2 : vp_in (nI i + 2) L := by rw [show nI i + 2 = nI (i + 2) from nI_add i 2]; exact nI_nin (by omega) (by omega)
  have in3 : vp_in (nI i + 3) L := by rw [show nI i + 3 = nI (i + 3) from nI_add i 3]; exact nI_nin (by omega) (by omega)
  obtain ⟨r, σ', μ', M1, M2, hR'⟩ := s_between (l := l) (D := D) (cI := cI) (cT := cT) (cM := cM) (cZ := cZ) hda hdb hR (xs (nI i + 1).toNatClampNeg) (xs (nI i + 2).toNatClampNeg) (xs (nI i + 3).toNatClampNeg)
  refine lv_aload_n hx hb dL_law_537 rfl (lv_at hl 1 rfl) ?_
  refine lv_aload_n hx hb dL_law_538 rfl (lv_at hl 0 rfl) ?_
  refine lv_iload_n hx hb dL_law_539 rfl (lv_at hl 3 rfl) ?_
  refine lv_iconst (v := 1) hx hb dL_law_540 (by decide) ?_
  refine lv_iadd hx hb dL_law_541 ?_
  refine va_sld hx hb hXs hbl hbA hS (in1) dL_law_542 ?_
  refine lv_aload_n hx hb dL_law_543 rfl (lv_at hl 0 rfl) ?_
  refine lv_iload_n hx hb dL_law_544 rfl (lv_at hl 3 rfl) ?_
  refine lv_iconst (v := 2) hx hb dL_law_545 (by decide) ?_
  refine lv_iadd hx hb dL_law_546 ?_
  refine va_sld hx hb hXs hbl hbA hS (in2) dL_law_547 ?_
  refine lv_aload_n hx hb dL_law_548 rfl (lv_at hl 0 rfl) ?_
  refine lv_iload_n hx hb dL_law_549 rfl (lv_at hl 3 rfl) ?_
  refine lv_iconst (v := 3) hx hb dL_law_550 (by decide) ?_
  refine lv_iadd hx hb dL_law_551 ?_
  refine va_sld hx hb hXs hbl hbA hS (in3) dL_law_552 ?_
  refine lw_cVi (As := [.int (xs (nI i + 1).toNatClampNeg), .int (xs (nI i + 2).toNatClampNeg), .int (xs (nI i + 3).toNatClampNeg)]) (rest := []) (wo := mwS cI cZ bd μ) M1 hx hb hml hown ht hXc hP hPm (no_m hdis μ) hA1 hS wX8_between kML_RL_77 rfl rfl ⟨Nat.le_of_ble_eq_true rfl, Nat.le_of_ble_eq_true rfl⟩ ⟨hc0, hs0⟩ (va_recv hXc.1 hP rfl cw_ri) rfl hl.1 rfl (Nat.le_of_ble_eq_true rfl) dL_law_553 (fun H locs hP hPm hS => ?_)
  refine lv_aload_n hx hb dL_law_556 rfl (lv_at hl 2 rfl) ?_
  refine lv_aload_n hx hb dL_law_557 rfl (lv_at hl 0 rfl) ?_
  refine lv_iload_n hx hb dL_law_558 rfl (lv_at hl 3 rfl) ?_
  refine lv_iconst (v := 1) hx hb dL_law_559 (by decide) ?_
  refine lv_iadd hx hb dL_law_560 ?_
  refine va_sld hx hb hXs hbl hbA hS (in1) dL_law_561 ?_
  refine lv_aload_n hx hb dL_law_562 rfl (lv_at hl 0 rfl) ?_
  refine lv_iload_n hx hb dL_law_563 rfl (lv_at hl 3 rfl) ?_
  refine lv_iconst (v := 2) hx hb dL_law_564 (by decide) ?_
  refine lv_iadd hx hb dL_law_565 ?_
  refine va_sld hx hb hXs hbl hbA hS (in2) dL_law_566 ?_
  refine lv_aload_n hx hb dL_law_567 rfl (lv_at hl 0 rfl) ?_
  refine lv_iload_n hx hb dL_law_568 rfl (lv_at hl 3 rfl) ?_
  refine lv_iconst (v := 3) hx hb dL_law_569 (by decide) ?_
  refine lv_iadd hx hb dL_law_570 ?_
  refine va_sld hx hb hXs hbl hbA hS (in3) dL_law_571 ?_
  refine lw_cVi (As := [.int (xs (nI i + 1).toNatClampNeg), .int (xs (nI i + 2).toNatClampNeg), .int (xs (nI i + 3).toNatClampNeg)]) (rest := [.int r]) (wo := cw cI cT cM ad σ') M2 hx hb hml hown ht hXm hPm hP (no_c hdis σ') hB1 hS wX9_between kML_RL_80 rfl rfl ⟨Nat.le_of_ble_eq_true rfl, Nat.le_of_ble_eq_true rfl⟩ ⟨hc0, hs0⟩ (va_recv hXm.1 hPm rfl mw_obj) rfl hl.1 rfl (Nat.le_of_ble_eq_true rfl) dL_law_572 (fun H locs hPm hP hS => ?_)
  exact lv_icmp_eq (tgt := 715) hx hb dL_law_575 (by decide) (fun _ => next σ' μ' H locs ls ⟨hR', hP, hPm, hS⟩ hl) (fun h => absurd rfl h)
set_option maxHeartbeats 4000000 in
theorem c_way (C : LC p s m c D cI cT cM cZ ad bd b L xs) (hc0 : c0 ≤ room_1.cells) (hs0 : s0 ≤ room_1.slots) (hi : i + 4 ≤ L) (next : ∀ (σ' : Sig) (μ' : Mst) (H : Heap) (locs : List Loc) (ls : Array Slot), LW s D cI cT cM cZ ad bd σ' μ' H locs → lv_has ls 4 [(0, .ref b), (1, .ref (ad 160)), (2, .ref (bd 0)), (3, .int (nI i))] → W p l e room_1 s m #[Value.ref b] below meth c H locs c0 s0 Q (F0 m 715 ls [])) (hw : LW s D cI cT cM cZ ad bd σ μ H locs) (hl : lv_has ls 4 [(0, .ref b), (1, .ref (ad 160)), (2, .ref (bd 0)), (3, .int (nI i))]) : W p l e room_1 s m #[Value.ref b] below meth c H locs c0 s0 Q (F0 m 580 ls []) := by
  obtain ⟨hx, hb, hml, hown, ht, hXc, hXm, hda, hdb, hA1, hB1, hdis, hXs, hbl, hL⟩ := C
  obtain ⟨hR, hP, hPm, hS⟩ := hw
  have hbA : ¬ (fun q : Nat => s.heap.size ≤ q) b := Nat.not_le.mpr hbl
  have in1 : vp_in (nI i + 1) L := by rw [show nI i + 1 = nI (i + 1) from nI_add i 1]; exact nI_nin (by omega) (by omega)
  have in2 : vp_in (nI i + 2) L := by rw [show nI i + 2 = nI (i + 2) from nI_add i 2]; exact nI_nin (by omega) (by omega)
  obtain ⟨r, σ', μ', M1, M2, hR'⟩ := s_way (l := l) (D := D) (cI := cI) (cT := cT) (cM := cM) (cZ := cZ) hda hdb hR (xs (nI i + 1).toNatClampNeg) (xs (nI i + 2).toNatClampNeg)
  refine lv_aload_n hx hb dL_law_580 rfl (lv_at hl 1 rfl) ?_
  refine lv_aload_n hx hb dL_law_581 rfl (lv_at hl 0 rfl) ?_
  refine lv_iload_n hx hb dL_law_582 rfl (lv_at hl 3 rfl) ?_
  refine lv_iconst (v := 1) hx hb dL_law_583 (by decide) ?_
  refine lv_iadd hx hb dL_law_584 ?_
  refine va_sld hx hb hXs hbl hbA hS (in1) dL_law_585 ?_
  refine lv_aload_n hx hb dL_law_586 rfl (lv_at hl 0 rfl) ?_
  refine lv_iload_n hx hb dL_law_587 rfl (lv_at hl 3 rfl) ?_
  refine lv_iconst (v := 2) hx hb dL_law_588 (by decide) ?_
  refine lv_iadd hx hb dL_law_589 ?_
  refine va_sld hx hb hXs hbl hbA hS (in2) dL_law_590 ?_
  refine lw_cVi (As := [.int (xs (nI i + 1).toNatClampNeg), .int (xs (nI i + 2).toNatClampNeg)]) (rest := []) (wo := mwS cI cZ bd μ) M1 hx hb hml hown ht hXc hP hPm (no_m hdis μ) hA1 hS wX8_way kML_RL_81 rfl rfl ⟨Nat.le_of_ble_eq_true rfl, Nat.le_of_ble_eq_true rfl⟩ ⟨hc0, hs0⟩ (va_recv hXc.1 hP rfl cw_ri) rfl hl.1 rfl (Nat.le_of_ble_eq_true rfl) dL_law_591 (fun H locs hP hPm hS => ?_)
  refine lv_aload_n hx hb dL_law_594 rfl (lv_at hl 2 rfl) ?_
  refine lv_aload_n hx hb dL_law_595 rfl (lv_at hl 0 rfl) ?_
  refine lv_iload_n hx hb dL_law_596 rfl (lv_at hl 3 rfl) ?_
  refine lv_iconst (v := 1) hx hb dL_law_597 (by decide) ?_
  refine lv_iadd hx hb dL_law_598 ?_
  refine va_sld hx hb hXs hbl hbA hS (in1) dL_law_599 ?_
  refine lv_aload_n hx hb dL_law_600 rfl (lv_at hl 0 rfl) ?_
  refine lv_iload_n hx hb dL_law_601 rfl (lv_at hl 3 rfl) ?_
  refine lv_iconst (v := 2) hx hb dL_law_602 (by decide) ?_
  refine lv_iadd hx hb dL_law_603 ?_
  refine va_sld hx hb hXs hbl hbA hS (in2) dL_law_604 ?_
  refine lw_cVi (As := [.int (xs (nI i + 1).toNatClampNeg), .int (xs (nI i + 2).toNatClampNeg)]) (rest := [.int r]) (wo := cw cI cT cM ad σ') M2 hx hb hml hown ht hXm hPm hP (no_c hdis σ') hB1 hS wX9_way kML_RL_84 rfl rfl ⟨Nat.le_of_ble_eq_true rfl, Nat.le_of_ble_eq_true rfl⟩ ⟨hc0, hs0⟩ (va_recv hXm.1 hPm rfl mw_obj) rfl hl.1 rfl (Nat.le_of_ble_eq_true rfl) dL_law_605 (fun H locs hPm hP hS => ?_)
  exact lv_icmp_eq (tgt := 715) hx hb dL_law_608 (by decide) (fun _ => next σ' μ' H locs ls ⟨hR', hP, hPm, hS⟩ hl) (fun h => absurd rfl h)
set_option maxHeartbeats 4000000 in
theorem c_audit (C : LC p s m c D cI cT cM cZ ad bd b L xs) (hc0 : c0 ≤ room_1.cells) (hs0 : s0 ≤ room_1.slots) (hi : i + 4 ≤ L) (next : ∀ (σ' : Sig) (μ' : Mst) (H : Heap) (locs : List Loc) (ls : Array Slot), LW s D cI cT cM cZ ad bd σ' μ' H locs → lv_has ls 4 [(0, .ref b), (1, .ref (ad 160)), (2, .ref (bd 0)), (3, .int (nI i))] → W p l e room_1 s m #[Value.ref b] below meth c H locs c0 s0 Q (F0 m 715 ls [])) (hw : LW s D cI cT cM cZ ad bd σ μ H locs) (hl : lv_has ls 4 [(0, .ref b), (1, .ref (ad 160)), (2, .ref (bd 0)), (3, .int (nI i))]) : W p l e room_1 s m #[Value.ref b] below meth c H locs c0 s0 Q (F0 m 613 ls []) := by
  obtain ⟨hx, hb, hml, hown, ht, hXc, hXm, hda, hdb, hA1, hB1, hdis, hXs, hbl, hL⟩ := C
  obtain ⟨hR, hP, hPm, hS⟩ := hw
  have hbA : ¬ (fun q : Nat => s.heap.size ≤ q) b := Nat.not_le.mpr hbl
  have in1 : vp_in (nI i + 1) L := by rw [show nI i + 1 = nI (i + 1) from nI_add i 1]; exact nI_nin (by omega) (by omega)
  have in2 : vp_in (nI i + 2) L := by rw [show nI i + 2 = nI (i + 2) from nI_add i 2]; exact nI_nin (by omega) (by omega)
  obtain ⟨r, σ', μ', M1, M2, hR'⟩ := s_audit (l := l) (D := D) (cI := cI) (cT := cT) (cM := cM) (cZ := cZ) hda hdb hR (xs (nI i + 1).toNatClampNeg) (xs (nI i + 2).toNatClampNeg)
  refine lv_aload_n hx hb dL_law_613 rfl (lv_at hl 1 rfl) ?_
  refine lv_aload_n hx hb dL_law_614 rfl (lv_at hl 0 rfl) ?_
  refine lv_iload_n hx hb dL_law_615 rfl (lv_at hl 3 rfl) ?_
  refine lv_iconst (v := 1) hx hb dL_law_616 (by decide) ?_
  refine lv_iadd hx hb dL_law_617 ?_
  refine va_sld hx hb hXs hbl hbA hS (in1) dL_law_618 ?_
  refine lv_aload_n hx hb dL_law_619 rfl (lv_at hl 0 rfl) ?_
  refine lv_iload_n hx hb dL_law_620 rfl (lv_at hl 3 rfl) ?_
  refine lv_iconst (v := 2) hx hb dL_law_621 (by decide) ?_
  refine lv_iadd hx hb dL_law_622 ?_
  refine va_sld hx hb hXs hbl hbA hS (in2) dL_law_623 ?_
  refine lw_cVi (As := [.int (xs (nI i + 1).toNatClampNeg), .int (xs (nI i + 2).toNatClampNeg)]) (rest := []) (wo := mwS cI cZ bd μ) M1 hx hb hml hown ht hXc hP hPm (no_m hdis μ) hA1 hS wX8_audit kML_RL_85 rfl rfl ⟨Nat.le_of_ble_eq_true rfl, Nat.le_of_ble_eq_true rfl⟩ ⟨hc0, hs0⟩ (va_recv hXc.1 hP rfl cw_ri) rfl hl.1 rfl (Nat.le_of_ble_eq_true rfl) dL_law_624 (fun H locs hP hPm hS => ?_)
  refine lv_aload_n hx hb dL_law_627 rfl (lv_at hl 2 rfl) ?_
  refine lv_aload_n hx hb dL_law_628 rfl (lv_at hl 0 rfl) ?_
  refine lv_iload_n hx hb dL_law_629 rfl (lv_at hl 3 rfl) ?_
  refine lv_iconst (v := 1) hx hb dL_law_630 (by decide) ?_
  refine lv_iadd hx hb dL_law_631 ?_
  refine va_sld hx hb hXs hbl hbA hS (in1) dL_law_632 ?_
  refine lv_aload_n hx hb dL_law_633 rfl (lv_at hl 0 rfl) ?_
  refine lv_iload_n hx hb dL_law_634 rfl (lv_at hl 3 rfl) ?_
  refine lv_iconst (v := 2) hx hb dL_law_635 (by decide) ?_
  refine lv_iadd hx hb dL_law_636 ?_
  refine va_sld hx hb hXs hbl hbA hS (in2) dL_law_637 ?_
  refine lw_cVi (As := [.int (xs (nI i + 1).toNatClampNeg), .int (xs (nI i + 2).toNatClampNeg)]) (rest := [.int r]) (wo := cw cI cT cM ad σ') M2 hx hb hml hown ht hXm hPm hP (no_c hdis σ') hB1 hS wX9_audit kML_RL_88 rfl rfl ⟨Nat.le_of_ble_eq_true rfl, Nat.le_of_ble_eq_true rfl⟩ ⟨hc0, hs0⟩ (va_recv hXm.1 hPm rfl mw_obj) rfl hl.1 rfl (Nat.le_of_ble_eq_true rfl) dL_law_638 (fun H locs hPm hP hS => ?_)
  exact lv_icmp_eq (tgt := 715) hx hb dL_law_641 (by decide) (fun _ => next σ' μ' H locs ls ⟨hR', hP, hPm, hS⟩ hl) (fun h => absurd rfl h)
set_option maxHeartbeats 4000000 in
theorem c_seed (C : LC p s m c D cI cT cM cZ ad bd b L xs) (hc0 : c0 ≤ room_1.cells) (hs0 : s0 ≤ room_1.slots) (hi : i + 4 ≤ L) (next : ∀ (σ' : Sig) (μ' : Mst) (H : Heap) (locs : List Loc) (ls : Array Slot), LW s D cI cT cM cZ ad bd σ' μ' H locs → lv_has ls 4 [(0, .ref b), (1, .ref (ad 160)), (2, .ref (bd 0)), (3, .int (nI i))] → W p l e room_1 s m #[Value.ref b] below meth c H locs c0 s0 Q (F0 m 715 ls [])) (hw : LW s D cI cT cM cZ ad bd σ μ H locs) (hl : lv_has ls 4 [(0, .ref b), (1, .ref (ad 160)), (2, .ref (bd 0)), (3, .int (nI i))]) : W p l e room_1 s m #[Value.ref b] below meth c H locs c0 s0 Q (F0 m 646 ls []) := by
  obtain ⟨hx, hb, hml, hown, ht, hXc, hXm, hda, hdb, hA1, hB1, hdis, hXs, hbl, hL⟩ := C
  obtain ⟨hR, hP, hPm, hS⟩ := hw
  have hbA : ¬ (fun q : Nat => s.heap.size ≤ q) b := Nat.not_le.mpr hbl
  have in1 : vp_in (nI i + 1) L := by rw [show nI i + 1 = nI (i + 1) from nI_add i 1]; exact nI_nin (by omega) (by omega)
  obtain ⟨r, σ', μ', M1, M2, hR'⟩ := s_seed (l := l) (D := D) (cI := cI) (cT := cT) (cM := cM) (cZ := cZ) hda hdb hR (xs (nI i + 1).toNatClampNeg)
  refine lv_aload_n hx hb dL_law_646 rfl (lv_at hl 1 rfl) ?_
  refine lv_aload_n hx hb dL_law_647 rfl (lv_at hl 0 rfl) ?_
  refine lv_iload_n hx hb dL_law_648 rfl (lv_at hl 3 rfl) ?_
  refine lv_iconst (v := 1) hx hb dL_law_649 (by decide) ?_
  refine lv_iadd hx hb dL_law_650 ?_
  refine va_sld hx hb hXs hbl hbA hS (in1) dL_law_651 ?_
  refine lw_cVi (As := [.int (xs (nI i + 1).toNatClampNeg)]) (rest := []) (wo := mwS cI cZ bd μ) M1 hx hb hml hown ht hXc hP hPm (no_m hdis μ) hA1 hS wX8_seed kML_RL_89 rfl rfl ⟨Nat.le_of_ble_eq_true rfl, Nat.le_of_ble_eq_true rfl⟩ ⟨hc0, hs0⟩ (va_recv hXc.1 hP rfl cw_ri) rfl hl.1 rfl (Nat.le_of_ble_eq_true rfl) dL_law_652 (fun H locs hP hPm hS => ?_)
  refine lv_aload_n hx hb dL_law_655 rfl (lv_at hl 2 rfl) ?_
  refine lv_aload_n hx hb dL_law_656 rfl (lv_at hl 0 rfl) ?_
  refine lv_iload_n hx hb dL_law_657 rfl (lv_at hl 3 rfl) ?_
  refine lv_iconst (v := 1) hx hb dL_law_658 (by decide) ?_
  refine lv_iadd hx hb dL_law_659 ?_
  refine va_sld hx hb hXs hbl hbA hS (in1) dL_law_660 ?_
  refine lw_cVi (As := [.int (xs (nI i + 1).toNatClampNeg)]) (rest := [.int r]) (wo := cw cI cT cM ad σ') M2 hx hb hml hown ht hXm hPm hP (no_c hdis σ') hB1 hS wX9_seed kML_RL_92 rfl rfl ⟨Nat.le_of_ble_eq_true rfl, Nat.le_of_ble_eq_true rfl⟩ ⟨hc0, hs0⟩ (va_recv hXm.1 hPm rfl mw_obj) rfl hl.1 rfl (Nat.le_of_ble_eq_true rfl) dL_law_661 (fun H locs hPm hP hS => ?_)
  exact lv_icmp_eq (tgt := 715) hx hb dL_law_664 (by decide) (fun _ => next σ' μ' H locs ls ⟨hR', hP, hPm, hS⟩ hl) (fun h => absurd rfl h)
set_option maxHeartbeats 4000000 in
theorem c_keep (C : LC p s m c D cI cT cM cZ ad bd b L xs) (hc0 : c0 ≤ room_1.cells) (hs0 : s0 ≤ room_1.slots) (hi : i + 4 ≤ L) (next : ∀ (σ' : Sig) (μ' : Mst) (H : Heap) (locs : List Loc) (ls : Array Slot), LW s D cI cT cM cZ ad bd σ' μ' H locs → lv_has ls 4 [(0, .ref b), (1, .ref (ad 160)), (2, .ref (bd 0)), (3, .int (nI i))] → W p l e room_1 s m #[Value.ref b] below meth c H locs c0 s0 Q (F0 m 715 ls [])) (hw : LW s D cI cT cM cZ ad bd σ μ H locs) (hl : lv_has ls 4 [(0, .ref b), (1, .ref (ad 160)), (2, .ref (bd 0)), (3, .int (nI i))]) : W p l e room_1 s m #[Value.ref b] below meth c H locs c0 s0 Q (F0 m 669 ls []) := by
  obtain ⟨hx, hb, hml, hown, ht, hXc, hXm, hda, hdb, hA1, hB1, hdis, hXs, hbl, hL⟩ := C
  obtain ⟨hR, hP, hPm, hS⟩ := hw
  have hbA : ¬ (fun q : Nat => s.heap.size ≤ q) b := Nat.not_le.mpr hbl
  have in1 : vp_in (nI i + 1) L := by rw [show nI i + 1 = nI (i + 1) from nI_add i 1]; exact nI_nin (by omega) (by omega)
  obtain ⟨r, σ', μ', M1, M2, hR'⟩ := s_keep (l := l) (D := D) (cI := cI) (cT := cT) (cM := cM) (cZ := cZ) hda hdb hR (xs (nI i + 1).toNatClampNeg)
  refine lv_aload_n hx hb dL_law_669 rfl (lv_at hl 1 rfl) ?_
  refine lv_aload_n hx hb dL_law_670 rfl (lv_at hl 0 rfl) ?_
  refine lv_iload_n hx hb dL_law_671 rfl (lv_at hl 3 rfl) ?_
  refine lv_iconst (v := 1) hx hb dL_law_672 (by decide) ?_
  refine lv_iadd hx hb dL_law_673 ?_
  refine va_sld hx hb hXs hbl hbA hS (in1) dL_law_674 ?_
  refine lw_cVi (As := [.int (xs (nI i + 1).toNatClampNeg)]) (rest := []) (wo := mwS cI cZ bd μ) M1 hx hb hml hown ht hXc hP hPm (no_m hdis μ) hA1 hS wX8_keep kML_RL_93 rfl rfl ⟨Nat.le_of_ble_eq_true rfl, Nat.le_of_ble_eq_true rfl⟩ ⟨hc0, hs0⟩ (va_recv hXc.1 hP rfl cw_ri) rfl hl.1 rfl (Nat.le_of_ble_eq_true rfl) dL_law_675 (fun H locs hP hPm hS => ?_)
  refine lv_aload_n hx hb dL_law_678 rfl (lv_at hl 2 rfl) ?_
  refine lv_aload_n hx hb dL_law_679 rfl (lv_at hl 0 rfl) ?_
  refine lv_iload_n hx hb dL_law_680 rfl (lv_at hl 3 rfl) ?_
  refine lv_iconst (v := 1) hx hb dL_law_681 (by decide) ?_
  refine lv_iadd hx hb dL_law_682 ?_
  refine va_sld hx hb hXs hbl hbA hS (in1) dL_law_683 ?_
  refine lw_cVi (As := [.int (xs (nI i + 1).toNatClampNeg)]) (rest := [.int r]) (wo := cw cI cT cM ad σ') M2 hx hb hml hown ht hXm hPm hP (no_c hdis σ') hB1 hS wX9_keep kML_RL_96 rfl rfl ⟨Nat.le_of_ble_eq_true rfl, Nat.le_of_ble_eq_true rfl⟩ ⟨hc0, hs0⟩ (va_recv hXm.1 hPm rfl mw_obj) rfl hl.1 rfl (Nat.le_of_ble_eq_true rfl) dL_law_684 (fun H locs hPm hP hS => ?_)
  exact lv_icmp_eq (tgt := 715) hx hb dL_law_687 (by decide) (fun _ => next σ' μ' H locs ls ⟨hR', hP, hPm, hS⟩ hl) (fun h => absurd rfl h)
set_option maxHeartbeats 4000000 in
theorem c_goBack (C : LC p s m c D cI cT cM cZ ad bd b L xs) (hc0 : c0 ≤ room_1.cells) (hs0 : s0 ≤ room_1.slots) (hi : i + 4 ≤ L) (next : ∀ (σ' : Sig) (μ' : Mst) (H : Heap) (locs : List Loc) (ls : Array Slot), LW s D cI cT cM cZ ad bd σ' μ' H locs → lv_has ls 4 [(0, .ref b), (1, .ref (ad 160)), (2, .ref (bd 0)), (3, .int (nI i))] → W p l e room_1 s m #[Value.ref b] below meth c H locs c0 s0 Q (F0 m 715 ls [])) (hw : LW s D cI cT cM cZ ad bd σ μ H locs) (hl : lv_has ls 4 [(0, .ref b), (1, .ref (ad 160)), (2, .ref (bd 0)), (3, .int (nI i))]) : W p l e room_1 s m #[Value.ref b] below meth c H locs c0 s0 Q (F0 m 692 ls []) := by
  obtain ⟨hx, hb, hml, hown, ht, hXc, hXm, hda, hdb, hA1, hB1, hdis, hXs, hbl, hL⟩ := C
  obtain ⟨hR, hP, hPm, hS⟩ := hw
  have hbA : ¬ (fun q : Nat => s.heap.size ≤ q) b := Nat.not_le.mpr hbl
  have in1 : vp_in (nI i + 1) L := by rw [show nI i + 1 = nI (i + 1) from nI_add i 1]; exact nI_nin (by omega) (by omega)
  obtain ⟨r, σ', μ', M1, M2, hR'⟩ := s_goBack (l := l) (D := D) (cI := cI) (cT := cT) (cM := cM) (cZ := cZ) hda hdb hR (xs (nI i + 1).toNatClampNeg)
  refine lv_aload_n hx hb dL_law_692 rfl (lv_at hl 1 rfl) ?_
  refine lv_aload_n hx hb dL_law_693 rfl (lv_at hl 0 rfl) ?_
  refine lv_iload_n hx hb dL_law_694 rfl (lv_at hl 3 rfl) ?_
  refine lv_iconst (v := 1) hx hb dL_law_695 (by decide) ?_
  refine lv_iadd hx hb dL_law_696 ?_
  refine va_sld hx hb hXs hbl hbA hS (in1) dL_law_697 ?_
  refine lw_cVi (As := [.int (xs (nI i + 1).toNatClampNeg)]) (rest := []) (wo := mwS cI cZ bd μ) M1 hx hb hml hown ht hXc hP hPm (no_m hdis μ) hA1 hS wX8_goBack kML_RL_97 rfl rfl ⟨Nat.le_of_ble_eq_true rfl, Nat.le_of_ble_eq_true rfl⟩ ⟨hc0, hs0⟩ (va_recv hXc.1 hP rfl cw_ri) rfl hl.1 rfl (Nat.le_of_ble_eq_true rfl) dL_law_698 (fun H locs hP hPm hS => ?_)
  refine lv_aload_n hx hb dL_law_701 rfl (lv_at hl 2 rfl) ?_
  refine lv_aload_n hx hb dL_law_702 rfl (lv_at hl 0 rfl) ?_
  refine lv_iload_n hx hb dL_law_703 rfl (lv_at hl 3 rfl) ?_
  refine lv_iconst (v := 1) hx hb dL_law_704 (by decide) ?_
  refine lv_iadd hx hb dL_law_705 ?_
  refine va_sld hx hb hXs hbl hbA hS (in1) dL_law_706 ?_
  refine lw_cVi (As := [.int (xs (nI i + 1).toNatClampNeg)]) (rest := [.int r]) (wo := cw cI cT cM ad σ') M2 hx hb hml hown ht hXm hPm hP (no_c hdis σ') hB1 hS wX9_goBack kML_RL_100 rfl rfl ⟨Nat.le_of_ble_eq_true rfl, Nat.le_of_ble_eq_true rfl⟩ ⟨hc0, hs0⟩ (va_recv hXm.1 hPm rfl mw_obj) rfl hl.1 rfl (Nat.le_of_ble_eq_true rfl) dL_law_707 (fun H locs hPm hP hS => ?_)
  exact lv_icmp_eq (tgt := 715) hx hb dL_law_710 (by decide) (fun _ => next σ' μ' H locs ls ⟨hR', hP, hPm, hS⟩ hl) (fun h => absurd rfl h)
end CASES
