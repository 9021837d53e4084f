/-! ===== the component itself ===== -/
theorem cf7_congr {cI : ClassId} {f g : Nat → Nat} (h : ∀ c, c < 10 → f c = g c) (k : Nat) : cf7 cI f k = cf7 cI g k := by
  unfold cf7
  simp only [h 1 (by omega), h 2 (by omega), h 3 (by omega), h 4 (by omega), h 5 (by omega), h 6 (by omega), h 7 (by omega), h 8 (by omega), h 9 (by omega)]
theorem cf3_congr {cI : ClassId} {f g : Nat → Nat} (h : ∀ c, c < 11 → f c = g c) (k : Nat) : cf3 cI f k = cf3 cI g k := by
  cases k with
  | zero => show (.inr (2, [.ref (f 1), .int 0, .int 0]) : va_E) = .inr (2, [.ref (g 1), .int 0, .int 0]); rw [h 1 (by omega)]
  | succ k => exact cf7_congr (fun c hc => h (c + 1) (by omega)) k
theorem cf5_congr {cI cT : ClassId} {f g : Nat → Nat} (h : ∀ c, c < 122 → f c = g c) (k : Nat) (hk : k < 122) : cf5 cI cT f k = cf5 cI cT g k := by
  match k, hk with
  | 0, _ => show (.inr (4, [.ref (f 1), .int 0, .int 0]) : va_E) = .inr (4, [.ref (g 1), .int 0, .int 0]); rw [h 1 (by omega)]
  | 1, _ =>
    have e : rwf (fun c => f (c + 2)) 12 = rwf (fun c => g (c + 2)) 12 := by
      funext j
      unfold rwf
      by_cases hj : j < 12
      · rw [if_pos hj, if_pos hj]; show some (f (10 * j + 2)) = some (g (10 * j + 2)); rw [h (10 * j + 2) (by omega)]
      · rw [if_neg hj, if_neg hj]
    show (.inl (cT, 12, .inr (.inr (.inr (.inr (rwf (fun c => f (c + 2)) 12))))) : va_E) = .inl (cT, 12, .inr (.inr (.inr (.inr (rwf (fun c => g (c + 2)) 12)))))
    rw [e]
  | k + 2, hk =>
    show cfT cI (fun c => f (c + 2)) k = cfT cI (fun c => g (c + 2)) k
    unfold cfT
    exact cf7_congr (fun c hc => h (10 * (k / 10) + c + 2) (by omega)) _
def imf (a b : Nat) : Nat → Option Nat := va_up (va_up (fun _ => none) 0 (some a)) 1 (some b)
def cf8 (cI cT cM : ClassId) : (Nat → Nat) → Nat → va_E := fun q k =>
  if k = 0 then .inr (6, [.ref (q 1), .ref (q 11), .ref (q 21), .ref (q 144), .ref (q 143)])
  else if k < 11 then cf7 cI (fun c => q (1 + c)) (k - 1)
  else if k < 21 then cf7 cI (fun c => q (11 + c)) (k - 11)
  else if k < 143 then cf5 cI cT (fun c => q (21 + c)) (k - 21)
  else if k = 143 then .inr (1, [.int 0])
  else if k = 144 then .inl (cM, 2, .inr (.inr (.inr (.inr (imf (q 145) (q 156))))))
  else if k < 156 then cf3 cI (fun c => q (145 + c)) (k - 145)
  else cf3 cI (fun c => q (156 + c)) (k - 156)
def ad8 (h0 ia : Nat) (q0 q1 qp qd qi qj : Nat → Nat) : Nat → Nat := fun k =>
  if k = 0 then h0 else if k < 11 then q0 (k - 1) else if k < 21 then q1 (k - 11) else if k < 143 then qp (k - 21) else if k = 143 then qd 0 else if k = 144 then ia else if k < 156 then qi (k - 145) else qj (k - 156)
theorem w8_eq (cI cT cM : ClassId) (h0 ia : Nat) (q0 q1 qp qd qi qj : Nat → Nat) : (((h0, .inr (6, [.ref (q0 0), .ref (q1 0), .ref (qp 0), .ref ia, .ref (qd 0)])) :: ((((gw 10 q0 (cf7 cI q0) ++ gw 10 q1 (cf7 cI q1)) ++ gw 122 qp (cf5 cI cT qp)) ++ gw 1 qd (cf2 qd)) ++ (ia, .inl (cM, 2, .inr (.inr (.inr (.inr (imf (qi 0) (qj 0))))))) :: (gw 11 qi (cf3 cI qi) ++ gw 11 qj (cf3 cI qj)))) : va_W) = gw 167 (ad8 h0 ia q0 q1 qp qd qi qj) (cf8 cI cT cM (ad8 h0 ia q0 q1 qp qd qi qj)) := by
  have A0 : ∀ c, c < 10 → ad8 h0 ia q0 q1 qp qd qi qj (1 + c) = q0 c := fun c hc => by unfold ad8; rw [if_neg (by omega), if_pos (by omega)]; exact congrArg q0 (by omega)
  have A1 : ∀ c, c < 10 → ad8 h0 ia q0 q1 qp qd qi qj (11 + c) = q1 c := fun c hc => by unfold ad8; rw [if_neg (by omega), if_neg (by omega), if_pos (by omega)]; exact congrArg q1 (by omega)
  have A2 : ∀ c, c < 122 → ad8 h0 ia q0 q1 qp qd qi qj (21 + c) = qp c := fun c hc => by unfold ad8; rw [if_neg (by omega), if_neg (by omega), if_neg (by omega), if_pos (by omega)]; exact congrArg qp (by omega)
  have A3 : ad8 h0 ia q0 q1 qp qd qi qj 143 = qd 0 := rfl
  have A4 : ad8 h0 ia q0 q1 qp qd qi qj 144 = ia := rfl
  have A5 : ∀ c, c < 11 → ad8 h0 ia q0 q1 qp qd qi qj (145 + c) = qi c := fun c hc => by unfold ad8; rw [if_neg (by omega), if_neg (by omega), if_neg (by omega), if_neg (by omega), if_neg (by omega), if_neg (by omega), if_pos (by omega)]; exact congrArg qi (by omega)
  have A6 : ∀ c, c < 11 → ad8 h0 ia q0 q1 qp qd qi qj (156 + c) = qj c := fun c hc => by unfold ad8; rw [if_neg (by omega), if_neg (by omega), if_neg (by omega), if_neg (by omega), if_neg (by omega), if_neg (by omega), if_neg (by omega)]; exact congrArg qj (by omega)
  have AZ : ad8 h0 ia q0 q1 qp qd qi qj 0 = h0 := rfl
  generalize hQ : ad8 h0 ia q0 q1 qp qd qi qj = Z at A0 A1 A2 A3 A4 A5 A6 AZ ⊢
  have C0 : ∀ c, c < 10 → cf8 cI cT cM Z (1 + c) = cf7 cI q0 c := fun c hc => by unfold cf8; rw [if_neg (by omega), if_pos (by omega), show 1 + c - 1 = c by omega]; exact cf7_congr A0 c
  have C1 : ∀ c, c < 10 → cf8 cI cT cM Z (11 + c) = cf7 cI q1 c := fun c hc => by unfold cf8; rw [if_neg (by omega), if_neg (by omega), if_pos (by omega), show 11 + c - 11 = c by omega]; exact cf7_congr A1 c
  have C2 : ∀ c, c < 122 → cf8 cI cT cM Z (21 + c) = cf5 cI cT qp c := fun c hc => by unfold cf8; rw [if_neg (by omega), if_neg (by omega), if_neg (by omega), if_pos (by omega), show 21 + c - 21 = c by omega]; exact cf5_congr A2 c hc
  have C5 : ∀ c, c < 11 → cf8 cI cT cM Z (145 + c) = cf3 cI qi c := fun c hc => by unfold cf8; rw [if_neg (by omega), if_neg (by omega), if_neg (by omega), if_neg (by omega), if_neg (by omega), if_neg (by omega), if_pos (by omega), show 145 + c - 145 = c by omega]; exact cf3_congr A5 c
  have C6 : ∀ c, c < 11 → cf8 cI cT cM Z (156 + c) = cf3 cI qj c := fun c hc => by unfold cf8; rw [if_neg (by omega), if_neg (by omega), if_neg (by omega), if_neg (by omega), if_neg (by omega), if_neg (by omega), if_neg (by omega), show 156 + c - 156 = c by omega]; exact cf3_congr A6 c
  have e1 : gw 11 qi (cf3 cI qi) ++ gw 11 qj (cf3 cI qj) = gw 22 (fun k => Z (145 + k)) (fun k => cf8 cI cT cM Z (145 + k)) := gw_app (n := 11) (m := 11) (fun k hk => ⟨A5 k hk, C5 k hk⟩) (fun k hk => ⟨by rw [show 145 + (11 + k) = 156 + k by omega]; exact A6 k hk, by show cf8 cI cT cM Z (145 + (11 + k)) = _; rw [show 145 + (11 + k) = 156 + k by omega]; exact C6 k hk⟩)
  have e2 : ((ia, .inl (cM, 2, .inr (.inr (.inr (.inr (imf (qi 0) (qj 0))))))) :: gw 22 (fun k => Z (145 + k)) (fun k => cf8 cI cT cM Z (145 + k)) : va_W) = gw 23 (fun k => Z (144 + k)) (fun k => cf8 cI cT cM Z (144 + k)) := by
    refine gw_app (n := 1) (m := 22) (a := fun _ => ia) (c := fun _ => .inl (cM, 2, .inr (.inr (.inr (.inr (imf (qi 0) (qj 0))))))) (fun k hk => ?_) (fun k hk => ⟨by rw [show 144 + (1 + k) = 145 + k by omega], by show cf8 cI cT cM Z (144 + (1 + k)) = _; rw [show 144 + (1 + k) = 145 + k by omega]⟩)
    obtain rfl : k = 0 := by omega
    refine ⟨A4, ?_⟩
    show cf8 cI cT cM Z 144 = _
    unfold cf8
    rw [if_neg (by omega), if_neg (by omega), if_neg (by omega), if_neg (by omega), if_neg (by omega), if_pos rfl, show Z 145 = qi 0 from A5 0 (by omega), show Z 156 = qj 0 from A6 0 (by omega)]
  have e3 : gw 1 qd (cf2 qd) ++ gw 23 (fun k => Z (144 + k)) (fun k => cf8 cI cT cM Z (144 + k)) = gw 24 (fun k => Z (143 + k)) (fun k => cf8 cI cT cM Z (143 + k)) := by
    refine gw_app (n := 1) (m := 23) (fun k hk => ?_) (fun k hk => ⟨by rw [show 143 + (1 + k) = 144 + k by omega], by show cf8 cI cT cM Z (143 + (1 + k)) = _; rw [show 143 + (1 + k) = 144 + k by omega]⟩)
    obtain rfl : k = 0 := by omega
    refine ⟨A3, ?_⟩
    show cf8 cI cT cM Z 143 = _
    unfold cf8
    rw [if_neg (by omega), if_neg (by omega), if_neg (by omega), if_neg (by omega), if_pos rfl]; rfl
  have e4 : gw 122 qp (cf5 cI cT qp) ++ gw 24 (fun k => Z (143 + k)) (fun k => cf8 cI cT cM Z (143 + k)) = gw 146 (fun k => Z (21 + k)) (fun k => cf8 cI cT cM Z (21 + k)) := gw_app (n := 122) (m := 24) (fun k hk => ⟨A2 k hk, C2 k hk⟩) (fun k hk => ⟨by rw [show 21 + (122 + k) = 143 + k by omega], by show cf8 cI cT cM Z (21 + (122 + k)) = _; rw [show 21 + (122 + k) = 143 + k by omega]⟩)
  have e5 : gw 10 q1 (cf7 cI q1) ++ gw 146 (fun k => Z (21 + k)) (fun k => cf8 cI cT cM Z (21 + k)) = gw 156 (fun k => Z (11 + k)) (fun k => cf8 cI cT cM Z (11 + k)) := gw_app (n := 10) (m := 146) (fun k hk => ⟨A1 k hk, C1 k hk⟩) (fun k hk => ⟨by rw [show 11 + (10 + k) = 21 + k by omega], by show cf8 cI cT cM Z (11 + (10 + k)) = _; rw [show 11 + (10 + k) = 21 + k by omega]⟩)
  have e6 : gw 10 q0 (cf7 cI q0) ++ gw 156 (fun k => Z (11 + k)) (fun k => cf8 cI cT cM Z (11 + k)) = gw 166 (fun k => Z (1 + k)) (fun k => cf8 cI cT cM Z (1 + k)) := gw_app (n := 10) (m := 156) (fun k hk => ⟨A0 k hk, C0 k hk⟩) (fun k hk => ⟨by rw [show 1 + (10 + k) = 11 + k by omega], by show cf8 cI cT cM Z (1 + (10 + k)) = _; rw [show 1 + (10 + k) = 11 + k by omega]⟩)
  have e7 : ((h0, .inr (6, [.ref (q0 0), .ref (q1 0), .ref (qp 0), .ref ia, .ref (qd 0)])) :: gw 166 (fun k => Z (1 + k)) (fun k => cf8 cI cT cM Z (1 + k)) : va_W) = gw 167 Z (cf8 cI cT cM Z) := by
    refine gw_app (n := 1) (m := 166) (a := fun _ => h0) (c := fun _ => .inr (6, [.ref (q0 0), .ref (q1 0), .ref (qp 0), .ref ia, .ref (qd 0)])) (fun k hk => ?_) (fun k hk => ⟨rfl, rfl⟩)
    obtain rfl : k = 0 := by omega
    refine ⟨AZ, ?_⟩
    show cf8 cI cT cM Z 0 = _
    unfold cf8
    rw [if_pos rfl, show Z 1 = q0 0 from A0 0 (by omega), show Z 11 = q1 0 from A1 0 (by omega), show Z 21 = qp 0 from A2 0 (by omega), A4, A3]
  rw [e1, e2, List.append_assoc, e3, List.append_assoc, e4, List.append_assoc, e5, e6, e7]
theorem set_mid {α : Type} : ∀ (pre t : List α) (x y : α), (pre ++ x :: t).set pre.length y = pre ++ y :: t
  | [], _, _, _ => rfl
  | a :: pre, t, x, y => by
    show a :: (pre ++ x :: t).set pre.length y = a :: (pre ++ y :: t)
    rw [set_mid pre t x y]
theorem get_mid {α : Type} (pre t : List α) (x : α) : (pre ++ x :: t)[pre.length]? = some x := by
  rw [List.getElem?_append_right (Nat.le_refl _), Nat.sub_self]; rfl
abbrev rC8 : Room := { frames := 4, cells := 166, slots := 6056, locals := 85 }
set_option maxHeartbeats 8000000 in
theorem nX8 {l : Launch} {D : va_G} {cI cT cM : ClassId} : CTk l yX8_init cX8_init 2 rC8 D (cTy cI cT cM) (.inr (6, [.null, .null, .null, .null, .null])) 167 (cf8 cI cT cM) 166 6056 := by
  refine ct_ini (by decide) rfl (Nat.le_of_ble_eq_true rfl) ?_
  intro h0 p e s m args below meth c Q ls A hx hb hml hown ht hKN hin hA ret hP hD hS hl
  have hl : lv_has ls 2 [(0, .ref h0)] := hl
  refine lv_aload_n hx hb dX8_init_0 rfl (lv_at hl 0 rfl) ?_
  refine W.objInit hx hb hown (ht _ kML_RX8_1) (ht _ kIM_objectInit) (ht _ kCO_objectInit) rfl (by rw [hml]; exact hl.1) rfl dX8_init_1 (Nat.le_of_ble_eq_true rfl) (Nat.le_of_ble_eq_true rfl) ?_
  refine W.eq (g2 := F0 m 4 ls []) rfl ?_
  refine lv_aload_n hx hb dX8_init_4 rfl (lv_at hl 0 rfl) ?_
  refine ct_mk (rest := [.ref h0]) (nX7 (cI := cI) (cT := cT) (cM := cM)) hx hb hml hown ht hKN hP hD hS hA rfl i_X7 tyX7 tyX7_ok kCL_RX8_7 kIS_RX7 kIN_RX7 rfl (fun j hj => by rcases (show j = 0 ∨ j = 1 ∨ j = 2 by omega) with rfl | rfl | rfl <;> rfl) kCO_yX7_init kIM_yX7_init rfl ⟨by decide +kernel, by decide +kernel, by decide +kernel⟩ (Or.inr ⟨_, hKN.2.1.1⟩) rfl rfl ⟨Nat.le_of_ble_eq_true rfl, Nat.le_of_ble_eq_true rfl⟩ (by decide) (by decide) hl.1 (Nat.le_of_ble_eq_true rfl) dX8_init_5 dX8_init_8 dX8_init_9 (fun q0 H locs hP hD hS => ?_)
  refine va_putF (D := D) (ci := 6) (v := .ref (q0 0)) (ty := (.object "RankIndex$Tree")) (C := RX8) (T := TX8) (N := 5) hx hb ht i_X8 tyX8 tyX8_ok nmX8 hown hKN.1.1 hP hD hS 0 rfl rfl 0 (by decide) (ht _ kFL_RX8_10) (fun _ h9 => h9) rfl hin rfl (by decide +kernel) rfl rfl (Nat.le_of_ble_eq_true rfl) dX8_init_12 (fun H locs hP hD hS => ?_)
  have hP : va_P D vwCl ([(h0, .inr (6, [.ref (q0 0), .null, .null, .null, .null]))] ++ gw 10 q0 (cf7 cI q0)) H := hP
  have hD : va_D A ([(h0, .inr (6, [.ref (q0 0), .null, .null, .null, .null]))] ++ gw 10 q0 (cf7 cI q0)) := hD
  refine lv_aload_n hx hb dX8_init_15 rfl (lv_at hl 0 rfl) ?_
  refine ct_mk (rest := [.ref h0]) (nX7 (cI := cI) (cT := cT) (cM := cM)) hx hb hml hown ht hKN hP hD hS hA rfl i_X7 tyX7 tyX7_ok kCL_RX8_7 kIS_RX7 kIN_RX7 rfl (fun j hj => by rcases (show j = 0 ∨ j = 1 ∨ j = 2 by omega) with rfl | rfl | rfl <;> rfl) kCO_yX7_init kIM_yX7_init rfl ⟨by decide +kernel, by decide +kernel, by decide +kernel⟩ (Or.inr ⟨_, hKN.2.1.1⟩) rfl rfl ⟨Nat.le_of_ble_eq_true rfl, Nat.le_of_ble_eq_true rfl⟩ (by decide) (by decide) hl.1 (Nat.le_of_ble_eq_true rfl) dX8_init_16 dX8_init_19 dX8_init_20 (fun q1 H locs hP hD hS => ?_)
  refine va_putF (D := D) (ci := 6) (v := .ref (q1 0)) (ty := (.object "RankIndex$Tree")) (C := RX8) (T := TX8) (N := 5) hx hb ht i_X8 tyX8 tyX8_ok nmX8 hown hKN.1.1 hP hD hS 0 rfl rfl 1 (by decide) (ht _ kFL_RX8_16) (fun _ h9 => h9) rfl hin rfl (by decide +kernel) rfl rfl (Nat.le_of_ble_eq_true rfl) dX8_init_23 (fun H locs hP hD hS => ?_)
  have hP : va_P D vwCl (([(h0, .inr (6, [.ref (q0 0), .ref (q1 0), .null, .null, .null]))] ++ gw 10 q0 (cf7 cI q0)) ++ gw 10 q1 (cf7 cI q1)) H := hP
  have hD : va_D A (([(h0, .inr (6, [.ref (q0 0), .ref (q1 0), .null, .null, .null]))] ++ gw 10 q0 (cf7 cI q0)) ++ gw 10 q1 (cf7 cI q1)) := hD
  refine lv_aload_n hx hb dX8_init_26 rfl (lv_at hl 0 rfl) ?_
  refine ct_mk (rest := [.ref h0]) (nX5 (cI := cI) (cT := cT) (cM := cM)) hx hb hml hown ht hKN hP hD hS hA rfl i_X5 tyX5 tyX5_ok kCL_RX8_19 kIS_RX5 kIN_RX5 rfl (fun j hj => by rcases (show j = 0 ∨ j = 1 ∨ j = 2 by omega) with rfl | rfl | rfl <;> rfl) kCO_yX5_init kIM_yX5_init rfl ⟨by decide +kernel, by decide +kernel, by decide +kernel⟩ (Or.inl kML_RX8_21) rfl rfl ⟨Nat.le_of_ble_eq_true rfl, Nat.le_of_ble_eq_true rfl⟩ (by decide) (by decide) hl.1 (Nat.le_of_ble_eq_true rfl) dX8_init_27 dX8_init_30 dX8_init_31 (fun qp H locs hP hD hS => ?_)
  refine va_putF (D := D) (ci := 6) (v := .ref (qp 0)) (ty := (.object "RankIndex$Past")) (C := RX8) (T := TX8) (N := 5) hx hb ht i_X8 tyX8 tyX8_ok nmX8 hown hKN.1.1 hP hD hS 0 rfl rfl 2 (by decide) (ht _ kFL_RX8_22) (fun _ h9 => h9) rfl hin rfl (by decide +kernel) rfl rfl (Nat.le_of_ble_eq_true rfl) dX8_init_34 (fun H locs hP hD hS => ?_)
  have hP : va_P D vwCl ((([(h0, .inr (6, [.ref (q0 0), .ref (q1 0), .ref (qp 0), .null, .null]))] ++ gw 10 q0 (cf7 cI q0)) ++ gw 10 q1 (cf7 cI q1)) ++ gw 122 qp (cf5 cI cT qp)) H := hP
  have hD : va_D A ((([(h0, .inr (6, [.ref (q0 0), .ref (q1 0), .ref (qp 0), .null, .null]))] ++ gw 10 q0 (cf7 cI q0)) ++ gw 10 q1 (cf7 cI q1)) ++ gw 122 qp (cf5 cI cT qp)) := hD
  refine lv_aload_n hx hb dX8_init_37 rfl (lv_at hl 0 rfl) ?_
  refine ct_mk (rest := [.ref h0]) nX2 hx hb hml hown ht hKN hP hD hS hA rfl i_X2 tyX2 tyX2_ok kCL_RX8_26 kIS_RX2 kIN_RX2 rfl (fun j hj => by rcases (show j = 0 by omega) with rfl <;> rfl) kCO_yX2_init kIM_yX2_init rfl ⟨by decide +kernel, by decide +kernel, by decide +kernel⟩ (Or.inr ⟨_, hKN.2.1.2.1⟩) rfl rfl ⟨Nat.le_of_ble_eq_true rfl, Nat.le_of_ble_eq_true rfl⟩ (by decide) (by decide) hl.1 (Nat.le_of_ble_eq_true rfl) dX8_init_38 dX8_init_41 dX8_init_42 (fun qd H locs hP hD hS => ?_)
  refine va_putF (D := D) (ci := 6) (v := .ref (qd 0)) (ty := (.object "RankIndex$Draws")) (C := RX8) (T := TX8) (N := 5) hx hb ht i_X8 tyX8 tyX8_ok nmX8 hown hKN.1.1 hP hD hS 0 rfl rfl 4 (by decide) (ht _ kFL_RX8_29) (fun _ h9 => h9) rfl hin rfl (by decide +kernel) rfl rfl (Nat.le_of_ble_eq_true rfl) dX8_init_45 (fun H locs hP hD hS => ?_)
  have hP : va_P D vwCl (((([(h0, .inr (6, [.ref (q0 0), .ref (q1 0), .ref (qp 0), .null, .ref (qd 0)]))] ++ gw 10 q0 (cf7 cI q0)) ++ gw 10 q1 (cf7 cI q1)) ++ gw 122 qp (cf5 cI cT qp)) ++ gw 1 qd (cf2 qd)) H := hP
  have hD : va_D A (((([(h0, .inr (6, [.ref (q0 0), .ref (q1 0), .ref (qp 0), .null, .ref (qd 0)]))] ++ gw 10 q0 (cf7 cI q0)) ++ gw 10 q1 (cf7 cI q1)) ++ gw 122 qp (cf5 cI cT qp)) ++ gw 1 qd (cf2 qd)) := hD
  refine lv_aload_n hx hb dX8_init_48 rfl (lv_at hl 0 rfl) ?_
  refine lv_iconst (v := 2) hx hb dX8_init_49 (by decide) ?_
  refine mk_refs (t0 := 2) (cT := cM) (C := RX3) (N := 2) rfl hx hb hown ht kCL_RX8_33 hKN.2.2.2 hKN.1.1 hP hD hS hA (by decide) rfl (by decide) (by decide) (by decide) dX8_init_50 (fun ia H hP hD hS => ?_)
  refine va_putF (D := D) (ci := 6) (v := .ref ia) (ty := (.array (.object "RankIndex$Image"))) (C := RX8) (T := TX8) (N := 5) hx hb ht i_X8 tyX8 tyX8_ok nmX8 hown hKN.1.1 hP hD hS 0 rfl rfl 3 (by decide) (ht _ kFL_RX8_35) (fun _ h9 => h9) rfl hin rfl (by decide +kernel) rfl rfl (Nat.le_of_ble_eq_true rfl) dX8_init_53 (fun H locs hP hD hS => ?_)
  obtain ⟨PP, hPP⟩ : ∃ PP : va_W, PP = ((gw 10 q0 (cf7 cI q0) ++ gw 10 q1 (cf7 cI q1)) ++ gw 122 qp (cf5 cI cT qp)) ++ gw 1 qd (cf2 qd) := ⟨_, rfl⟩
  have hPl : PP.length = 143 := by rw [hPP]; simp only [List.length_append, gw_len]
  have eW : ((((([(h0, .inr (6, [.ref (q0 0), .ref (q1 0), .ref (qp 0), .ref ia, .ref (qd 0)]))] ++ gw 10 q0 (cf7 cI q0)) ++ gw 10 q1 (cf7 cI q1)) ++ gw 122 qp (cf5 cI cT qp)) ++ gw 1 qd (cf2 qd)) ++ [(ia, .inl (cM, 2, .inr (.inr (.inr (.inr (fun _ => none))))))]) = ((h0, .inr (6, [.ref (q0 0), .ref (q1 0), .ref (qp 0), .ref ia, .ref (qd 0)])) :: (PP ++ [(ia, .inl (cM, 2, .inr (.inr (.inr (.inr (fun _ => none))))))]) : va_W) := by
    rw [hPP]; simp only [List.cons_append, List.nil_append, List.append_assoc]
  have hP : va_P D vwCl ((((([(h0, .inr (6, [.ref (q0 0), .ref (q1 0), .ref (qp 0), .ref ia, .ref (qd 0)]))] ++ gw 10 q0 (cf7 cI q0)) ++ gw 10 q1 (cf7 cI q1)) ++ gw 122 qp (cf5 cI cT qp)) ++ gw 1 qd (cf2 qd)) ++ [(ia, .inl (cM, 2, .inr (.inr (.inr (.inr (fun _ => none))))))]) H := hP
  have hD : va_D A ((((([(h0, .inr (6, [.ref (q0 0), .ref (q1 0), .ref (qp 0), .ref ia, .ref (qd 0)]))] ++ gw 10 q0 (cf7 cI q0)) ++ gw 10 q1 (cf7 cI q1)) ++ gw 122 qp (cf5 cI cT qp)) ++ gw 1 qd (cf2 qd)) ++ [(ia, .inl (cM, 2, .inr (.inr (.inr (.inr (fun _ => none))))))]) := hD
  rw [eW] at hP hD
  refine lv_iconst (v := 0) hx hb dX8_init_56 (by decide) ?_
  refine lv_istore_n (lv' := [(1, .int 0), (0, .ref h0)]) hx hb dX8_init_57 rfl hl (by decide) rfl (fun ls hl => ?_)
  refine lv_iload_n hx hb dX8_init_58 rfl (lv_at hl 0 rfl) ?_
  refine lv_iconst (v := 2) hx hb dX8_init_59 (by decide) ?_
  refine lv_icmp_ge (tgt := 82) hx hb dX8_init_60 (by decide) (fun hc1 => absurd hc1 (by decide)) (fun _ => ?_)
  refine lv_aload_n hx hb dX8_init_63 rfl (lv_at hl 1 rfl) ?_
  refine va_get (D := D) (ci := 6) (v := .ref ia) (C := RX8) (T := TX8) (N := 5) hx hb ht i_X8 hown hKN.1.1 hP 0 rfl rfl 3 (by decide) (ht _ kFL_RX8_35) (fun _ h9 => h9) rfl dX8_init_64 ?_
  refine lv_iload_n hx hb dX8_init_67 rfl (lv_at hl 0 rfl) ?_
  refine ct_mk (rest := [.int 0, .ref ia]) (nX3 (cI := cI) (cT := cT) (cM := cM)) hx hb hml hown ht hKN hP hD hS hA rfl i_X3 tyX3 tyX3_ok kCL_RX8_33 kIS_RX3 kIN_RX3 rfl (fun j hj => by rcases (show j = 0 ∨ j = 1 ∨ j = 2 by omega) with rfl | rfl | rfl <;> rfl) kCO_yX3_init kIM_yX3_init rfl ⟨by decide +kernel, by decide +kernel, by decide +kernel⟩ (Or.inr ⟨_, hKN.2.1.2.2.1⟩) rfl rfl ⟨Nat.le_of_ble_eq_true rfl, Nat.le_of_ble_eq_true rfl⟩ (by decide) (by decide) hl.1 (Nat.le_of_ble_eq_true rfl) dX8_init_68 dX8_init_71 dX8_init_72 (fun qi H locs hP hD hS => ?_)
  have e1 : ((((h0, .inr (6, [.ref (q0 0), .ref (q1 0), .ref (qp 0), .ref ia, .ref (qd 0)])) :: (PP ++ [(ia, .inl (cM, 2, .inr (.inr (.inr (.inr (fun _ => none))))))])) ++ gw 11 qi (cf3 cI qi)) : va_W) = (h0, .inr (6, [.ref (q0 0), .ref (q1 0), .ref (qp 0), .ref ia, .ref (qd 0)])) :: (PP ++ (ia, .inl (cM, 2, .inr (.inr (.inr (.inr (fun _ => none)))))) :: (gw 11 qi (cf3 cI qi))) := by simp only [List.cons_append, List.append_assoc, List.nil_append]
  rw [e1] at hP hD
  refine va_astq hx hb hKN.1.1 hP hD hS 144 2 145 2 (n := 2) (r := (RX3, TX3, 3)) (vs := [.ref (qi 1), .int 0, .int 0]) (f := fun _ => none) (show (PP ++ _ :: _)[143]? = _ from by rw [← hPl]; exact get_mid PP _ _) rfl (by
    rw [← e1, List.getElem?_append_right (by simp only [List.length_cons, List.length_append, List.length_nil, gw_len, hPl] <;> omega)]
    have hz : 145 - ((h0, .inr (6, [.ref (q0 0), .ref (q1 0), .ref (qp 0), .ref ia, .ref (qd 0)])) :: (PP ++ [(ia, .inl (cM, 2, .inr (.inr (.inr (.inr (fun _ => none))))))]) : va_W).length = 0 := by simp only [List.length_cons, List.length_append, List.length_nil, gw_len, hPl] <;> omega
    rw [hz]; rfl) rfl (nI_nin (s := 0) (n := 2) (by omega) (by omega)) dX8_init_75 (fun H locs hP hD hS => ?_)
  have e2 : ((h0, .inr (6, [.ref (q0 0), .ref (q1 0), .ref (qp 0), .ref ia, .ref (qd 0)])) :: (PP ++ (ia, .inl (cM, 2, .inr (.inr (.inr (.inr (fun _ => none)))))) :: (gw 11 qi (cf3 cI qi))) : va_W).set 144 (ia, .inl (cM, 2, .inr (.inr (.inr (.inr (va_up (fun _ => none) (0 : Int32).toNatClampNeg (some (qi 0)))))))) = (h0, .inr (6, [.ref (q0 0), .ref (q1 0), .ref (qp 0), .ref ia, .ref (qd 0)])) :: (PP ++ (ia, .inl (cM, 2, .inr (.inr (.inr (.inr (va_up (fun _ => none) 0 (some (qi 0)))))))) :: (gw 11 qi (cf3 cI qi))) := by
    show (h0, .inr (6, [.ref (q0 0), .ref (q1 0), .ref (qp 0), .ref ia, .ref (qd 0)])) :: (PP ++ (ia, .inl (cM, 2, .inr (.inr (.inr (.inr (fun _ => none)))))) :: (gw 11 qi (cf3 cI qi))).set 143 _ = _
    rw [← hPl, set_mid]; rfl
  have hP := e2 ▸ hP
  have hD := e2 ▸ hD
  refine lv_iinc (v := 1) (lv' := [(1, .int 1), (0, .ref h0)]) hx hb dX8_init_76 hl (k := 0) rfl (by decide) (by decide) rfl (fun ls hl => ?_)
  refine lv_goto (tgt := 58) hx hb dX8_init_79 (by decide) ?_
  refine lv_iload_n hx hb dX8_init_58 rfl (lv_at hl 0 rfl) ?_
  refine lv_iconst (v := 2) hx hb dX8_init_59 (by decide) ?_
  refine lv_icmp_ge (tgt := 82) hx hb dX8_init_60 (by decide) (fun hc1 => absurd hc1 (by decide)) (fun _ => ?_)
  refine lv_aload_n hx hb dX8_init_63 rfl (lv_at hl 1 rfl) ?_
  refine va_get (D := D) (ci := 6) (v := .ref ia) (C := RX8) (T := TX8) (N := 5) hx hb ht i_X8 hown hKN.1.1 hP 0 rfl rfl 3 (by decide) (ht _ kFL_RX8_35) (fun _ h9 => h9) rfl dX8_init_64 ?_
  refine lv_iload_n hx hb dX8_init_67 rfl (lv_at hl 0 rfl) ?_
  refine ct_mk (rest := [.int 1, .ref ia]) (nX3 (cI := cI) (cT := cT) (cM := cM)) hx hb hml hown ht hKN hP hD hS hA rfl i_X3 tyX3 tyX3_ok kCL_RX8_33 kIS_RX3 kIN_RX3 rfl (fun j hj => by rcases (show j = 0 ∨ j = 1 ∨ j = 2 by omega) with rfl | rfl | rfl <;> rfl) kCO_yX3_init kIM_yX3_init rfl ⟨by decide +kernel, by decide +kernel, by decide +kernel⟩ (Or.inr ⟨_, hKN.2.1.2.2.1⟩) rfl rfl ⟨Nat.le_of_ble_eq_true rfl, Nat.le_of_ble_eq_true rfl⟩ (by decide) (by decide) hl.1 (Nat.le_of_ble_eq_true rfl) dX8_init_68 dX8_init_71 dX8_init_72 (fun qj H locs hP hD hS => ?_)
  have e1 : ((((h0, .inr (6, [.ref (q0 0), .ref (q1 0), .ref (qp 0), .ref ia, .ref (qd 0)])) :: (PP ++ (ia, .inl (cM, 2, .inr (.inr (.inr (.inr (va_up (fun _ => none) 0 (some (qi 0)))))))) :: gw 11 qi (cf3 cI qi))) ++ gw 11 qj (cf3 cI qj)) : va_W) = (h0, .inr (6, [.ref (q0 0), .ref (q1 0), .ref (qp 0), .ref ia, .ref (qd 0)])) :: (PP ++ (ia, .inl (cM, 2, .inr (.inr (.inr (.inr (va_up (fun _ => none) 0 (some (qi 0)))))))) :: (gw 11 qi (cf3 cI qi) ++ gw 11 qj (cf3 cI qj))) := by simp only [List.cons_append, List.append_assoc, List.nil_append]
  rw [e1] at hP hD
  refine va_astq hx hb hKN.1.1 hP hD hS 144 2 156 2 (n := 2) (r := (RX3, TX3, 3)) (vs := [.ref (qj 1), .int 0, .int 0]) (f := va_up (fun _ => none) 0 (some (qi 0))) (show (PP ++ _ :: _)[143]? = _ from by rw [← hPl]; exact get_mid PP _ _) rfl (by
    rw [← e1, List.getElem?_append_right (by simp only [List.length_cons, List.length_append, List.length_nil, gw_len, hPl] <;> omega)]
    have hz : 156 - ((h0, .inr (6, [.ref (q0 0), .ref (q1 0), .ref (qp 0), .ref ia, .ref (qd 0)])) :: (PP ++ (ia, .inl (cM, 2, .inr (.inr (.inr (.inr (va_up (fun _ => none) 0 (some (qi 0)))))))) :: gw 11 qi (cf3 cI qi)) : va_W).length = 0 := by simp only [List.length_cons, List.length_append, List.length_nil, gw_len, hPl] <;> omega
    rw [hz]; rfl) rfl (nI_nin (s := 1) (n := 2) (by omega) (by omega)) dX8_init_75 (fun H locs hP hD hS => ?_)
  have e2 : ((h0, .inr (6, [.ref (q0 0), .ref (q1 0), .ref (qp 0), .ref ia, .ref (qd 0)])) :: (PP ++ (ia, .inl (cM, 2, .inr (.inr (.inr (.inr (va_up (fun _ => none) 0 (some (qi 0)))))))) :: (gw 11 qi (cf3 cI qi) ++ gw 11 qj (cf3 cI qj))) : va_W).set 144 (ia, .inl (cM, 2, .inr (.inr (.inr (.inr (va_up (va_up (fun _ => none) 0 (some (qi 0))) (1 : Int32).toNatClampNeg (some (qj 0)))))))) = (h0, .inr (6, [.ref (q0 0), .ref (q1 0), .ref (qp 0), .ref ia, .ref (qd 0)])) :: (PP ++ (ia, .inl (cM, 2, .inr (.inr (.inr (.inr (va_up (va_up (fun _ => none) 0 (some (qi 0))) 1 (some (qj 0)))))))) :: (gw 11 qi (cf3 cI qi) ++ gw 11 qj (cf3 cI qj))) := by
    show (h0, .inr (6, [.ref (q0 0), .ref (q1 0), .ref (qp 0), .ref ia, .ref (qd 0)])) :: (PP ++ (ia, .inl (cM, 2, .inr (.inr (.inr (.inr (va_up (fun _ => none) 0 (some (qi 0)))))))) :: (gw 11 qi (cf3 cI qi) ++ gw 11 qj (cf3 cI qj))).set 143 _ = _
    rw [← hPl, set_mid]; rfl
  have hP := e2 ▸ hP
  have hD := e2 ▸ hD
  refine lv_iinc (v := 2) (lv' := [(1, .int 2), (0, .ref h0)]) hx hb dX8_init_76 hl (k := 0) rfl (by decide) (by decide) rfl (fun ls hl => ?_)
  refine lv_goto (tgt := 58) hx hb dX8_init_79 (by decide) ?_
  refine lv_iload_n hx hb dX8_init_58 rfl (lv_at hl 0 rfl) ?_
  refine lv_iconst (v := 2) hx hb dX8_init_59 (by decide) ?_
  refine lv_icmp_ge (tgt := 82) hx hb dX8_init_60 (by decide) (fun _ => ?_) (fun hc1 => absurd (by decide) hc1)
  refine W.widen (k := 166) (n := 6056) (by decide) (by decide) ?_
  have hP : va_P D vwCl ((h0, .inr (6, [.ref (q0 0), .ref (q1 0), .ref (qp 0), .ref ia, .ref (qd 0)])) :: (PP ++ (ia, .inl (cM, 2, .inr (.inr (.inr (.inr (imf (qi 0) (qj 0))))))) :: (gw 11 qi (cf3 cI qi) ++ gw 11 qj (cf3 cI qj)))) H := hP
  have hD : va_D A ((h0, .inr (6, [.ref (q0 0), .ref (q1 0), .ref (qp 0), .ref ia, .ref (qd 0)])) :: (PP ++ (ia, .inl (cM, 2, .inr (.inr (.inr (.inr (imf (qi 0) (qj 0))))))) :: (gw 11 qi (cf3 cI qi) ++ gw 11 qj (cf3 cI qj)))) := hD
  rw [hPP, w8_eq] at hP hD
  exact ret _ _ _ _ (ad8 h0 ia q0 q1 qp qd qi qj) rfl hP hD hS dX8_init_82
