/-! ===== the constructors of the component: Tree, Image, Past ===== -/
abbrev rC7 : Room := { frames := 2, cells := 9, slots := 374, locals := 44 }
def cf7 (cI : ClassId) : (Nat → Nat) → Nat → va_E := fun q k => match k with
  | 0 => .inr (5, [.ref (q 1), .ref (q 8), .ref (q 9)])
  | 1 => .inr (3, [.ref (q 2), .ref (q 3), .ref (q 4), .ref (q 5), .ref (q 6), .ref (q 7), .int (-1), .int 0])
  | 2 => .inl (cI, 60, .inl (ta0 0))
  | 8 => .inr (0, [.int 0, .int 0, .int 0])
  | 9 => .inr (0, [.int 0, .int 0, .int 0])
  | _ => .inl (cI, 60, .inl (fun _ => 0))
set_option maxHeartbeats 4000000 in
theorem nX7 {l : Launch} {D : va_G} {cI cT cM : ClassId} : CTk l yX7_init cX7_init 1 rC7 D (cTy cI cT cM) (.inr (5, [.null, .null, .null])) 10 (cf7 cI) 9 374 := by
  refine ct_ini (by decide) rfl (Nat.le_refl 1) ?_
  intro h0 p e s m args below meth c Q ls A hx hb hml hown ht hKN hin hA ret hP hD hS hl
  have hl : lv_has ls 1 [(0, .ref h0)] := hl
  refine lv_aload_n hx hb dX7_init_0 rfl (lv_at hl 0 rfl) ?_
  refine W.objInit hx hb hown (ht _ kML_RX7_3) (ht _ kIM_objectInit) (ht _ kCO_objectInit) rfl (by rw [hml]; exact hl.1) rfl dX7_init_1 (Nat.le_of_ble_eq_true rfl) (Nat.le_of_ble_eq_true rfl) ?_
  refine W.eq (g2 := F0 m 4 ls []) rfl ?_
  refine lv_aload_n hx hb dX7_init_4 rfl (lv_at hl 0 rfl) ?_
  refine ct_mk (rest := [.ref h0]) (nX4 (cI := cI) (cT := cT) (cM := cM)) hx hb hml hown ht hKN hP hD hS hA rfl i_X4 tyX4 tyX4_ok kCL_RX7_9 kIS_RX4 kIN_RX4 rfl (fun j hj => by rcases (show j = 0 ∨ j = 1 ∨ j = 2 ∨ j = 3 ∨ j = 4 ∨ j = 5 ∨ j = 6 ∨ j = 7 by omega) with rfl | rfl | rfl | rfl | rfl | rfl | rfl | rfl <;> rfl) kCO_yX4_init kIM_yX4_init rfl ⟨by decide +kernel, by decide +kernel, by decide +kernel⟩ (Or.inl kML_RX7_11) rfl rfl ⟨Nat.le_of_ble_eq_true rfl, Nat.le_of_ble_eq_true rfl⟩ (by decide) (by decide) hl.1 (Nat.le_of_ble_eq_true rfl) dX7_init_5 dX7_init_8 dX7_init_9 (fun qn H locs hP hD hS => ?_)
  refine va_putF (D := D) (ci := 5) (v := .ref (qn 0)) (ty := (.object "RankIndex$Nodes")) (C := RX7) (T := TX7) (N := 3) hx hb ht i_X7 tyX7 tyX7_ok nmX7 hown hKN.1.1 hP hD hS 0 rfl rfl 0 (by decide) (ht _ kFL_RX7_12) (fun _ h9 => h9) rfl hin rfl (by decide +kernel) rfl rfl (Nat.le_of_ble_eq_true rfl) dX7_init_12 (fun H locs hP hD hS => ?_)
  have hP : va_P D vwCl ([(h0, .inr (5, [.ref (qn 0), .null, .null]))] ++ gw 7 qn (cf4 cI qn)) H := hP
  have hD : va_D A ([(h0, .inr (5, [.ref (qn 0), .null, .null]))] ++ gw 7 qn (cf4 cI qn)) := hD
  refine lv_aload_n hx hb dX7_init_15 rfl (lv_at hl 0 rfl) ?_
  refine ct_mk (rest := [.ref h0]) nX1 hx hb hml hown ht hKN hP hD hS hA rfl i_X1 tyX1 tyX1_ok kCL_RX7_18 kIS_RX1 kIN_RX1 rfl (fun j hj => by rcases (show j = 0 ∨ j = 1 ∨ j = 2 by omega) with rfl | rfl | rfl <;> rfl) kCO_yX1_init kIM_yX1_init rfl ⟨by decide +kernel, by decide +kernel, by decide +kernel⟩ (Or.inr ⟨_, hKN.2.1.2.2.2.2.2⟩) rfl rfl ⟨Nat.le_of_ble_eq_true rfl, Nat.le_of_ble_eq_true rfl⟩ (by decide) (by decide) hl.1 (Nat.le_of_ble_eq_true rfl) dX7_init_16 dX7_init_19 dX7_init_20 (fun qa H locs hP hD hS => ?_)
  refine va_putF (D := D) (ci := 5) (v := .ref (qa 0)) (ty := (.object "RankIndex$Counts")) (C := RX7) (T := TX7) (N := 3) hx hb ht i_X7 tyX7 tyX7_ok nmX7 hown hKN.1.1 hP hD hS 0 rfl rfl 1 (by decide) (ht _ kFL_RX7_21) (fun _ h9 => h9) rfl hin rfl (by decide +kernel) rfl rfl (Nat.le_of_ble_eq_true rfl) dX7_init_23 (fun H locs hP hD hS => ?_)
  have hP : va_P D vwCl (([(h0, .inr (5, [.ref (qn 0), .ref (qa 0), .null]))] ++ gw 7 qn (cf4 cI qn)) ++ gw 1 qa (cf1 qa)) H := hP
  have hD : va_D A (([(h0, .inr (5, [.ref (qn 0), .ref (qa 0), .null]))] ++ gw 7 qn (cf4 cI qn)) ++ gw 1 qa (cf1 qa)) := hD
  refine lv_aload_n hx hb dX7_init_26 rfl (lv_at hl 0 rfl) ?_
  refine ct_mk (rest := [.ref h0]) nX1 hx hb hml hown ht hKN hP hD hS hA rfl i_X1 tyX1 tyX1_ok kCL_RX7_18 kIS_RX1 kIN_RX1 rfl (fun j hj => by rcases (show j = 0 ∨ j = 1 ∨ j = 2 by omega) with rfl | rfl | rfl <;> rfl) kCO_yX1_init kIM_yX1_init rfl ⟨by decide +kernel, by decide +kernel, by decide +kernel⟩ (Or.inr ⟨_, hKN.2.1.2.2.2.2.2⟩) rfl rfl ⟨Nat.le_of_ble_eq_true rfl, Nat.le_of_ble_eq_true rfl⟩ (by decide) (by decide) hl.1 (Nat.le_of_ble_eq_true rfl) dX7_init_27 dX7_init_30 dX7_init_31 (fun qb H locs hP hD hS => ?_)
  refine va_putF (D := D) (ci := 5) (v := .ref (qb 0)) (ty := (.object "RankIndex$Counts")) (C := RX7) (T := TX7) (N := 3) hx hb ht i_X7 tyX7 tyX7_ok nmX7 hown hKN.1.1 hP hD hS 0 rfl rfl 2 (by decide) (ht _ kFL_RX7_25) (fun _ h9 => h9) rfl hin rfl (by decide +kernel) rfl rfl (Nat.le_of_ble_eq_true rfl) dX7_init_34 (fun H locs hP hD hS => ?_)
  refine W.widen (k := 9) (n := 374) (by decide) (by decide) ?_
  exact ret _ _ _ _ (fun k => match k with | 0 => h0 | 1 => qn 0 | 2 => qn 1 | 3 => qn 2 | 4 => qn 3 | 5 => qn 4 | 6 => qn 5 | 7 => qn 6 | 8 => qa 0 | _ => qb 0) rfl hP hD hS dX7_init_37

abbrev rC3 : Room := { frames := 3, cells := 10, slots := 377, locals := 64 }
def cf3 (cI : ClassId) : (Nat → Nat) → Nat → va_E := fun q k => match k with
  | 0 => .inr (2, [.ref (q 1), .int 0, .int 0])
  | k + 1 => cf7 cI (fun j => q (j + 1)) k
set_option maxHeartbeats 4000000 in
theorem nX3 {l : Launch} {D : va_G} {cI cT cM : ClassId} : CTk l yX3_init cX3_init 1 rC3 D (cTy cI cT cM) (.inr (2, [.null, .int 0, .int 0])) 11 (cf3 cI) 10 377 := by
  refine ct_ini (by decide) rfl (Nat.le_refl 1) ?_
  intro h0 p e s m args below meth c Q ls A hx hb hml hown ht hKN hin hA ret hP hD hS hl
  have hl : lv_has ls 1 [(0, .ref h0)] := hl
  refine lv_aload_n hx hb dX3_init_0 rfl (lv_at hl 0 rfl) ?_
  refine W.objInit hx hb hown (ht _ kML_RX3_1) (ht _ kIM_objectInit) (ht _ kCO_objectInit) rfl (by rw [hml]; exact hl.1) rfl dX3_init_1 (Nat.le_of_ble_eq_true rfl) (Nat.le_of_ble_eq_true rfl) ?_
  refine W.eq (g2 := F0 m 4 ls []) rfl ?_
  refine lv_aload_n hx hb dX3_init_4 rfl (lv_at hl 0 rfl) ?_
  refine ct_mk (rest := [.ref h0]) (nX7 (cI := cI) (cT := cT) (cM := cM)) hx hb hml hown ht hKN hP hD hS hA rfl i_X7 tyX7 tyX7_ok kCL_RX3_7 kIS_RX7 kIN_RX7 rfl (fun j hj => by rcases (show j = 0 ∨ j = 1 ∨ j = 2 by omega) with rfl | rfl | rfl <;> rfl) kCO_yX7_init kIM_yX7_init rfl ⟨by decide +kernel, by decide +kernel, by decide +kernel⟩ (Or.inr ⟨_, hKN.2.1.2.2.2.1⟩) rfl rfl ⟨Nat.le_of_ble_eq_true rfl, Nat.le_of_ble_eq_true rfl⟩ (by decide) (by decide) hl.1 (Nat.le_of_ble_eq_true rfl) dX3_init_5 dX3_init_8 dX3_init_9 (fun qt H locs hP hD hS => ?_)
  refine va_putF (D := D) (ci := 2) (v := .ref (qt 0)) (ty := (.object "RankIndex$Tree")) (C := RX3) (T := TX3) (N := 3) hx hb ht i_X3 tyX3 tyX3_ok nmX3 hown hKN.1.1 hP hD hS 0 rfl rfl 0 (by decide) (ht _ kFL_RX3_10) (fun _ h9 => h9) rfl hin rfl (by decide +kernel) rfl rfl (Nat.le_of_ble_eq_true rfl) dX3_init_12 (fun H locs hP hD hS => ?_)
  have hP : va_P D vwCl ([(h0, .inr (2, [.ref (qt 0), .int 0, .int 0]))] ++ gw 10 qt (cf7 cI qt)) H := hP
  have hD : va_D A ([(h0, .inr (2, [.ref (qt 0), .int 0, .int 0]))] ++ gw 10 qt (cf7 cI qt)) := hD
  refine lv_aload_n hx hb dX3_init_15 rfl (lv_at hl 0 rfl) ?_
  refine lv_iconst (v := 0) hx hb dX3_init_16 (by decide) ?_
  refine va_put (D := D) (ci := 2) (v := .int 0) (ty := .int) (C := RX3) (T := TX3) (N := 3) hx hb ht i_X3 tyX3 tyX3_ok nmX3 hown hKN.1.1 hP hD hS 0 rfl rfl 1 (by decide) (ht _ kFL_RX3_16) (fun _ h9 => h9) rfl (by decide +kernel) rfl rfl (Nat.le_of_ble_eq_true rfl) dX3_init_17 (fun H locs hP hD hS => ?_)
  have hP : va_P D vwCl ([(h0, .inr (2, [.ref (qt 0), .int 0, .int 0]))] ++ gw 10 qt (cf7 cI qt)) H := hP
  have hD : va_D A ([(h0, .inr (2, [.ref (qt 0), .int 0, .int 0]))] ++ gw 10 qt (cf7 cI qt)) := hD
  refine lv_aload_n hx hb dX3_init_20 rfl (lv_at hl 0 rfl) ?_
  refine lv_iconst (v := 0) hx hb dX3_init_21 (by decide) ?_
  refine va_put (D := D) (ci := 2) (v := .int 0) (ty := .boolean) (C := RX3) (T := TX3) (N := 3) hx hb ht i_X3 tyX3 tyX3_ok nmX3 hown hKN.1.1 hP hD hS 0 rfl rfl 2 (by decide) (ht _ kFL_RX3_20) (fun _ h9 => h9) rfl (by decide +kernel) rfl rfl (Nat.le_of_ble_eq_true rfl) dX3_init_22 (fun H locs hP hD hS => ?_)
  have hP : va_P D vwCl ([(h0, .inr (2, [.ref (qt 0), .int 0, .int 0]))] ++ gw 10 qt (cf7 cI qt)) H := hP
  have hD : va_D A ([(h0, .inr (2, [.ref (qt 0), .int 0, .int 0]))] ++ gw 10 qt (cf7 cI qt)) := hD
  refine W.widen (k := 10) (n := 377) (by decide) (by decide) ?_
  exact ret _ _ _ _ (fun k => match k with | 0 => h0 | k + 1 => qt k) rfl hP hD hS dX3_init_25

theorem gw_app {n m : Nat} {a a' B : Nat → Nat} {c c' C : Nat → va_E} (h1 : ∀ k, k < n → B k = a k ∧ C k = c k) (h2 : ∀ k, k < m → B (n + k) = a' k ∧ C (n + k) = c' k) : gw n a c ++ gw m a' c' = gw (n + m) B C := by
  unfold gw
  rw [List.range_add, List.map_append, List.map_map]
  congr 1
  · refine List.map_congr_left (fun k hk => ?_)
    obtain ⟨e1, e2⟩ := h1 k (List.mem_range.mp hk)
    rw [e1, e2]
  · refine List.map_congr_left (fun k hk => ?_)
    obtain ⟨e1, e2⟩ := h2 k (List.mem_range.mp hk)
    show _ = (B (n + k), C (n + k))
    rw [e1, e2]
theorem gw_len (n : Nat) (a : Nat → Nat) (c : Nat → va_E) : (gw n a c).length = n := by simp [gw]
abbrev rC5 : Room := { frames := 3, cells := 121, slots := 4536, locals := 64 }
/-- trees side by side -/
def cfT (cI : ClassId) : (Nat → Nat) → Nat → va_E := fun q k => cf7 cI (fun c => q (10 * (k / 10) + c)) (k % 10)
def rwf (q : Nat → Nat) (i : Nat) : Nat → Option Nat := fun j => if j < i then some (q (10 * j)) else none
def cf5 (cI cT : ClassId) : (Nat → Nat) → Nat → va_E := fun q k => match k with
  | 0 => .inr (4, [.ref (q 1), .int 0, .int 0])
  | 1 => .inl (cT, 12, .inr (.inr (.inr (.inr (rwf (fun c => q (c + 2)) 12)))))
  | k + 2 => cfT cI (fun c => q (c + 2)) k
theorem cfT_app (cI : ClassId) (i : Nat) (Qa q : Nat → Nat) : gw (10 * i) Qa (cfT cI Qa) ++ gw 10 q (cf7 cI q) = gw (10 * i + 10) (fun k => if k < 10 * i then Qa k else q (k - 10 * i)) (cfT cI (fun k => if k < 10 * i then Qa k else q (k - 10 * i))) := by
  refine gw_app (fun k hk => ⟨if_pos hk, ?_⟩) (fun k hk => ⟨by show (if 10 * i + k < 10 * i then _ else _) = _; rw [if_neg (by omega)]; congr 1; omega, ?_⟩)
  · unfold cfT
    have hm : k % 10 < 10 := Nat.mod_lt _ (by omega)
    have hg : ∀ c, c < 10 → (if 10 * (k / 10) + c < 10 * i then Qa (10 * (k / 10) + c) else q (10 * (k / 10) + c - 10 * i)) = Qa (10 * (k / 10) + c) := fun c hc => if_pos (by omega)
    unfold cf7
    simp only [hg 0 (by omega), hg 1 (by omega), hg 2 (by omega), hg 3 (by omega), hg 4 (by omega), hg 5 (by omega), hg 6 (by omega), hg 7 (by omega), hg 8 (by omega), hg 9 (by omega)]
  · unfold cfT
    have e1 : (10 * i + k) / 10 = i := by omega
    have e2 : (10 * i + k) % 10 = k := by omega
    have hg : ∀ c, c < 10 → (if 10 * i + c < 10 * i then Qa (10 * i + c) else q (10 * i + c - 10 * i)) = q c := fun c hc => by rw [if_neg (by omega)]; congr 1; omega
    rw [e1, e2]
    unfold cf7
    simp only [hg 0 (by omega), hg 1 (by omega), hg 2 (by omega), hg 3 (by omega), hg 4 (by omega), hg 5 (by omega), hg 6 (by omega), hg 7 (by omega), hg 8 (by omega), hg 9 (by omega)]
set_option maxHeartbeats 4000000 in
theorem nX5 {l : Launch} {D : va_G} {cI cT cM : ClassId} : CTk l yX5_init cX5_init 2 rC5 D (cTy cI cT cM) (.inr (4, [.null, .int 0, .int 0])) 122 (cf5 cI cT) 121 4536 := by
  refine ct_ini (by decide) rfl (Nat.le_of_ble_eq_true rfl) ?_
  intro h0 p e s m args below meth c Q ls A hx hb hml hown ht hKN hin hA ret hP hD hS hl
  have hl : lv_has ls 2 [(0, .ref h0)] := hl
  refine lv_aload_n hx hb dX5_init_0 rfl (lv_at hl 0 rfl) ?_
  refine W.objInit hx hb hown (ht _ kML_RX5_3) (ht _ kIM_objectInit) (ht _ kCO_objectInit) rfl (by rw [hml]; exact hl.1) rfl dX5_init_1 (Nat.le_of_ble_eq_true rfl) (Nat.le_of_ble_eq_true rfl) ?_
  refine W.eq (g2 := F0 m 4 ls []) rfl ?_
  refine lv_aload_n hx hb dX5_init_4 rfl (lv_at hl 0 rfl) ?_
  refine lv_bipush (v := (12 : Int32)) hx hb dX5_init_5 (by decide) ?_
  refine mk_refs (t0 := 1) (cT := cT) (C := RX7) (N := 12) rfl hx hb hown ht kCL_RX5_9 hKN.2.2.1 hKN.1.1 hP hD hS hA (by decide) rfl (by decide) (by decide) (by decide) dX5_init_7 (fun ra H hP hD hS => ?_)
  have hP : va_P D vwCl ([(h0, .inr (4, [.null, .int 0, .int 0])), (ra, .inl (cT, 12, .inr (.inr (.inr (.inr (fun _ => none))))))]) H := hP
  have hD : va_D A ([(h0, .inr (4, [.null, .int 0, .int 0])), (ra, .inl (cT, 12, .inr (.inr (.inr (.inr (fun _ => none))))))]) := hD
  refine va_putF (D := D) (ci := 4) (v := .ref ra) (ty := (.array (.object "RankIndex$Tree"))) (C := RX5) (T := TX5) (N := 3) hx hb ht i_X5 tyX5 tyX5_ok nmX5 hown hKN.1.1 hP hD hS 0 rfl rfl 0 (by decide) (ht _ kFL_RX5_11) (fun _ h9 => h9) rfl hin rfl (by decide +kernel) rfl rfl (Nat.le_of_ble_eq_true rfl) dX5_init_10 (fun H locs hP hD hS => ?_)
  have hP : va_P D vwCl ([(h0, .inr (4, [.ref ra, .int 0, .int 0])), (ra, .inl (cT, 12, .inr (.inr (.inr (.inr (fun _ => none))))))]) H := hP
  have hD : va_D A ([(h0, .inr (4, [.ref ra, .int 0, .int 0])), (ra, .inl (cT, 12, .inr (.inr (.inr (.inr (fun _ => none))))))]) := hD
  refine lv_aload_n hx hb dX5_init_13 rfl (lv_at hl 0 rfl) ?_
  refine lv_iconst (v := 0) hx hb dX5_init_14 (by decide) ?_
  refine va_put (D := D) (ci := 4) (v := .int 0) (ty := .int) (C := RX5) (T := TX5) (N := 3) hx hb ht i_X5 tyX5 tyX5_ok nmX5 hown hKN.1.1 hP hD hS 0 rfl rfl 1 (by decide) (ht _ kFL_RX5_17) (fun _ h9 => h9) rfl (by decide +kernel) rfl rfl (Nat.le_of_ble_eq_true rfl) dX5_init_15 (fun H locs hP hD hS => ?_)
  have hP : va_P D vwCl ([(h0, .inr (4, [.ref ra, .int 0, .int 0])), (ra, .inl (cT, 12, .inr (.inr (.inr (.inr (fun _ => none))))))]) H := hP
  have hD : va_D A ([(h0, .inr (4, [.ref ra, .int 0, .int 0])), (ra, .inl (cT, 12, .inr (.inr (.inr (.inr (fun _ => none))))))]) := hD
  refine lv_aload_n hx hb dX5_init_18 rfl (lv_at hl 0 rfl) ?_
  refine lv_iconst (v := 0) hx hb dX5_init_19 (by decide) ?_
  refine va_put (D := D) (ci := 4) (v := .int 0) (ty := .int) (C := RX5) (T := TX5) (N := 3) hx hb ht i_X5 tyX5 tyX5_ok nmX5 hown hKN.1.1 hP hD hS 0 rfl rfl 2 (by decide) (ht _ kFL_RX5_21) (fun _ h9 => h9) rfl (by decide +kernel) rfl rfl (Nat.le_of_ble_eq_true rfl) dX5_init_20 (fun H locs hP hD hS => ?_)
  have hP : va_P D vwCl ([(h0, .inr (4, [.ref ra, .int 0, .int 0])), (ra, .inl (cT, 12, .inr (.inr (.inr (.inr (fun _ => none))))))]) H := hP
  have hD : va_D A ([(h0, .inr (4, [.ref ra, .int 0, .int 0])), (ra, .inl (cT, 12, .inr (.inr (.inr (.inr (fun _ => none))))))]) := hD
  refine lv_iconst (v := 0) hx hb dX5_init_23 (by decide) ?_
  refine lv_istore_n (lv' := [(1, .int 0), (0, .ref h0)]) hx hb dX5_init_24 rfl hl (by decide) rfl (fun ls hl => ?_)
  have blk : ∀ (j i : Nat) (Qa : Nat → Nat) (H : Heap) (locs : List Loc) (ls : Array Slot), i + j = 12 → va_P D vwCl ([(h0, .inr (4, [.ref ra, .int 0, .int 0])), (ra, .inl (cT, 12, .inr (.inr (.inr (.inr (rwf Qa i))))))] ++ gw (10 * i) Qa (cfT cI Qa)) H → va_D A ([(h0, .inr (4, [.ref ra, .int 0, .int 0])), (ra, .inl (cT, 12, .inr (.inr (.inr (.inr (rwf Qa i))))))] ++ gw (10 * i) Qa (cfT cI Qa)) → va_S A s.heap H locs → lv_has ls 2 [(1, .int (nI i)), (0, .ref h0)] → W p l e rC5 s m args below meth c H locs (1 + 10 * i) (12 + 377 * i) Q (F0 m 25 ls []) := by
    intro j
    induction j with
    | zero =>
      intro i Qa H locs ls hi hP hD hS hl
      obtain rfl : i = 12 := by omega
      refine lv_iload_n hx hb dX5_init_25 rfl (lv_at hl 0 rfl) ?_
      refine lv_bipush (v := (12 : Int32)) hx hb dX5_init_26 (by decide) ?_
      refine lv_icmp_ge (tgt := 50) hx hb dX5_init_28 (by decide) (fun hc1 => ?_) (fun hc1 => absurd (by decide) hc1)
      refine W.widen (k := 121) (n := 4536) (by decide) (by decide) ?_
      have e : ([(h0, .inr (4, [.ref ra, .int 0, .int 0])), (ra, .inl (cT, 12, .inr (.inr (.inr (.inr (rwf Qa 12))))))] ++ gw (10 * 12) Qa (cfT cI Qa) : va_W) = gw 122 (fun k => match k with | 0 => h0 | 1 => ra | k + 2 => Qa k) (cf5 cI cT (fun k => match k with | 0 => h0 | 1 => ra | k + 2 => Qa k)) := by
        have := gw_app (n := 2) (m := 120) (a := fun k => match k with | 0 => h0 | _ => ra) (a' := Qa) (B := fun k => match k with | 0 => h0 | 1 => ra | k + 2 => Qa k) (c := fun k => match k with | 0 => .inr (4, [.ref ra, .int 0, .int 0]) | _ => .inl (cT, 12, .inr (.inr (.inr (.inr (rwf Qa 12)))))) (c' := cfT cI Qa) (C := cf5 cI cT (fun k => match k with | 0 => h0 | 1 => ra | k + 2 => Qa k)) (fun k hk => by
          rcases (show k = 0 ∨ k = 1 by omega) with rfl | rfl <;> exact ⟨rfl, rfl⟩) (fun k hk => by
          rw [Nat.add_comm 2 k]; exact ⟨rfl, rfl⟩)
        exact this
      rw [e] at hP hD
      exact ret _ _ _ _ _ rfl hP hD hS dX5_init_50
    | succ j ih =>
      intro i Qa H locs ls hi hP hD hS hl
      refine lv_iload_n hx hb dX5_init_25 rfl (lv_at hl 0 rfl) ?_
      refine lv_bipush (v := (12 : Int32)) hx hb dX5_init_26 (by decide) ?_
      refine lv_icmp_ge (tgt := 50) hx hb dX5_init_28 (by decide) (fun hc1 => absurd hc1 (nI_ge (b := 12) (by omega) (by omega))) (fun hc1 => ?_)
      refine lv_aload_n hx hb dX5_init_31 rfl (lv_at hl 1 rfl) ?_
      refine va_get (D := D) (ci := 4) (v := .ref ra) (C := RX5) (T := TX5) (N := 3) hx hb ht i_X5 hown hKN.1.1 hP 0 rfl rfl 0 (by decide) (ht _ kFL_RX5_11) (fun _ h9 => h9) rfl dX5_init_32 ?_
      refine lv_iload_n hx hb dX5_init_35 rfl (lv_at hl 0 rfl) ?_
      refine ct_mk (rest := [.int (nI i), .ref ra]) (nX7 (cI := cI) (cT := cT) (cM := cM)) hx hb hml hown ht hKN hP hD hS hA rfl i_X7 tyX7 tyX7_ok kCL_RX5_9 kIS_RX7 kIN_RX7 rfl (fun j hj => by rcases (show j = 0 ∨ j = 1 ∨ j = 2 by omega) with rfl | rfl | rfl <;> rfl) kCO_yX7_init kIM_yX7_init rfl ⟨by decide +kernel, by decide +kernel, by decide +kernel⟩ (Or.inr ⟨_, hKN.2.1.2.2.2.2.1⟩) rfl rfl ⟨Nat.le_of_ble_eq_true rfl, Nat.le_of_ble_eq_true rfl⟩ (by show _ ≤ 121; omega) (by show _ ≤ 4536; omega) hl.1 (Nat.le_of_ble_eq_true rfl) dX5_init_36 dX5_init_39 dX5_init_40 (fun q H locs hP hD hS => ?_)
      have hlen : ([(h0, .inr (4, [.ref ra, .int 0, .int 0])), (ra, .inl (cT, 12, .inr (.inr (.inr (.inr (rwf Qa i))))))] ++ gw (10 * i) Qa (cfT cI Qa) : va_W).length = 2 + 10 * i := by rw [List.length_append, gw_len]; rfl
      refine va_astq hx hb hKN.1.1 hP hD hS 1 1 (2 + 10 * i) 5 (r := (RX7, TX7, 3)) (vs := [.ref (q 1), .ref (q 8), .ref (q 9)]) (f := rwf Qa i) rfl rfl (by rw [List.getElem?_append_right (by omega), hlen, Nat.sub_self]; rfl) rfl (nI_nin (by omega) (by omega)) dX5_init_43 (fun H locs hP hD hS => ?_)
      refine lv_iinc (v := nI (i + 1)) (lv' := [(1, .int (nI (i + 1))), (0, .ref h0)]) hx hb dX5_init_44 hl (k := 0) rfl (nI_1 i) (by decide) rfl (fun ls hl => ?_)
      refine lv_goto (tgt := 25) hx hb dX5_init_47 (by decide) ?_
      refine W.widen (k := 1 + 10 * (i + 1)) (n := 12 + 377 * (i + 1)) (by omega) (by omega) ?_
      have e : (([(h0, .inr (4, [.ref ra, .int 0, .int 0])), (ra, .inl (cT, 12, .inr (.inr (.inr (.inr (rwf Qa i))))))] ++ gw (10 * i) Qa (cfT cI Qa)) ++ gw 10 q (cf7 cI q) : va_W).set 1 (ra, .inl (cT, 12, .inr (.inr (.inr (.inr (va_up (rwf Qa i) (nI i).toNatClampNeg (some (q 0)))))))) = [(h0, .inr (4, [.ref ra, .int 0, .int 0])), (ra, .inl (cT, 12, .inr (.inr (.inr (.inr (rwf (fun k => if k < 10 * i then Qa k else q (k - 10 * i)) (i + 1)))))))] ++ gw (10 * (i + 1)) (fun k => if k < 10 * i then Qa k else q (k - 10 * i)) (cfT cI (fun k => if k < 10 * i then Qa k else q (k - 10 * i))) := by
        have e1 : va_up (rwf Qa i) (nI i).toNatClampNeg (some (q 0)) = rwf (fun k => if k < 10 * i then Qa k else q (k - 10 * i)) (i + 1) := by
          rw [nI_clamp (by omega)]
          funext k
          unfold va_up rwf
          by_cases h1 : k = i
          · subst h1; rw [if_pos rfl, if_pos (by omega)]; show some (q 0) = some (if 10 * k < 10 * k then _ else q (10 * k - 10 * k)); rw [if_neg (by omega), Nat.sub_self]
          · rw [if_neg h1]
            by_cases h2 : k < i
            · rw [if_pos h2, if_pos (by omega)]; show some (Qa (10 * k)) = some (if 10 * k < 10 * i then Qa (10 * k) else _); rw [if_pos (by omega)]
            · rw [if_neg h2, if_neg (by omega)]
        rw [e1, List.append_assoc, cfT_app]
        rfl
      rw [e] at hP hD
      exact ih (i + 1) _ _ _ ls (by omega) hP hD hS hl
  refine W.widen (k := 1 + 10 * 0) (n := 12 + 377 * 0) (by decide) (by decide) ?_
  exact blk 12 0 (fun _ => 0) _ _ ls (by omega) hP hD hS hl
