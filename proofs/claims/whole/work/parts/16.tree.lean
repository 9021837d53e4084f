def fX7_copyFrom (F : Nat) (τ : Tau) (τ2 : Tau) : Option (Tau) := (fX4_copyFrom F τ τ2).bind fun q1 => ((fX1_copyFrom F q1 τ2 7).bind fun q2 => ((fX1_copyFrom F q2 τ2 8).bind fun q3 => (some q3)))
abbrev rX7_copyFrom : Room := { frames := 2, cells := 0, slots := 0, locals := 81 }
theorem wX7_copyFrom : kV yX7_copyFrom cX7_copyFrom 2 none 1 := ⟨kCO_yX7_copyFrom, kIM_yX7_copyFrom, kSE_yX7_copyFrom, kIN_RX7, by decide +kernel, by decide +kernel, by decide +kernel⟩
set_option maxHeartbeats 4000000 in
set_option maxRecDepth 100000 in
theorem tX7_copyFrom {l : Launch} {D : va_G} {cI cT cM : ClassId} {ad : Nat → Nat} (hD : gInj 167 ad) {F : Nat} {σ : Sig} {i : Nat} (hi : i < 16) {j : Nat} (hj : j < 16) (hij : j ≠ i) {τ : Tau} {res : Tau} (hf : fX7_copyFrom F τ (σ j) = some res) : CTv l yX7_copyFrom cX7_copyFrom 2 rX7_copyFrom D (cTy cI cT cM) (gA 167 ad) [.ref (ad (10 * i)), .ref (ad (10 * j))] (cw cI cT cM ad (u3 σ i τ)) (cw cI cT cM ad (u3 σ i res)) := by
  refine ct_void (by decide) (Nat.le_of_ble_eq_true rfl) ?_
  intro p e s m args below meth c Q ls hx hb hml hown ht hX hret hP hS hl
  have hl : lv_has ls 2 [(0, .ref (ad (10 * i))), (1, .ref (ad (10 * j)))] := hl
  unfold fX7_copyFrom at hf
  refine lv_aload_n hx hb dX7_copyFrom_0 rfl (lv_at hl 0 rfl) ?_
  refine va_get (ci := 5) (v := .ref (ad (10 * i + 1))) hx hb ht i_X7 hown hX.1 hP (10 * i) (cw_tree (i := i) hi) rfl 0 (by decide) (ht _ kFL_RX7_12) (fun _ h9 => h9) rfl dX7_copyFrom_1 ?_
  refine lv_aload_n hx hb dX7_copyFrom_4 rfl (lv_at hl 1 rfl) ?_
  refine va_get (ci := 5) (v := .ref (ad (10 * j + 1))) hx hb ht i_X7 hown hX.1 hP (10 * j) (cw_tree (i := j) hj) rfl 0 (by decide) (ht _ kFL_RX7_12) (fun _ h9 => h9) rfl dX7_copyFrom_5 ?_
  obtain ⟨q1, hq1, hf⟩ := obE hf
  refine ct_cVv (rest := []) (tX4_copyFrom hD hi hj hij hq1) hx hb hml hown ht hX hP hS wX4_copyFrom kML_RX7_28 rfl rfl ⟨Nat.le_of_ble_eq_true rfl, Nat.le_of_ble_eq_true rfl⟩ (va_recv hX.1 hP rfl (ct_nodes hi)) rfl hl.1 rfl (Nat.le_of_ble_eq_true rfl) dX7_copyFrom_8 (fun H locs hP hS => ?_)
  refine lv_aload_n hx hb dX7_copyFrom_11 rfl (lv_at hl 0 rfl) ?_
  refine va_get (ci := 5) (v := .ref (ad (10 * i + (1 + 7)))) hx hb ht i_X7 hown hX.1 hP (10 * i) (cw_tree (i := i) hi) rfl 1 (by decide) (ht _ kFL_RX7_21) (fun _ h9 => h9) rfl dX7_copyFrom_12 ?_
  refine lv_aload_n hx hb dX7_copyFrom_15 rfl (lv_at hl 1 rfl) ?_
  refine va_get (ci := 5) (v := .ref (ad (10 * j + (1 + 7)))) hx hb ht i_X7 hown hX.1 hP (10 * j) (cw_tree (i := j) hj) rfl 1 (by decide) (ht _ kFL_RX7_21) (fun _ h9 => h9) rfl dX7_copyFrom_16 ?_
  obtain ⟨q2, hq2, hf⟩ := obE hf
  refine ct_cVv (rest := []) (tX1_copyFrom hD hi hj hij (Or.inl rfl) hq2) hx hb hml hown ht hX hP hS wX1_copyFrom kML_RX7_32 rfl rfl ⟨Nat.le_of_ble_eq_true rfl, Nat.le_of_ble_eq_true rfl⟩ (va_recv hX.1 hP rfl (ct_cnt hi (Or.inl rfl))) rfl hl.1 rfl (Nat.le_of_ble_eq_true rfl) dX7_copyFrom_19 (fun H locs hP hS => ?_)
  refine lv_aload_n hx hb dX7_copyFrom_22 rfl (lv_at hl 0 rfl) ?_
  refine va_get (ci := 5) (v := .ref (ad (10 * i + (1 + 8)))) hx hb ht i_X7 hown hX.1 hP (10 * i) (cw_tree (i := i) hi) rfl 2 (by decide) (ht _ kFL_RX7_25) (fun _ h9 => h9) rfl dX7_copyFrom_23 ?_
  refine lv_aload_n hx hb dX7_copyFrom_26 rfl (lv_at hl 1 rfl) ?_
  refine va_get (ci := 5) (v := .ref (ad (10 * j + (1 + 8)))) hx hb ht i_X7 hown hX.1 hP (10 * j) (cw_tree (i := j) hj) rfl 2 (by decide) (ht _ kFL_RX7_25) (fun _ h9 => h9) rfl dX7_copyFrom_27 ?_
  obtain ⟨q3, hq3, hf⟩ := obE hf
  refine ct_cVv (rest := []) (tX1_copyFrom hD hi hj hij (Or.inr rfl) hq3) hx hb hml hown ht hX hP hS wX1_copyFrom kML_RX7_32 rfl rfl ⟨Nat.le_of_ble_eq_true rfl, Nat.le_of_ble_eq_true rfl⟩ (va_recv hX.1 hP rfl (ct_cnt hi (Or.inr rfl))) rfl hl.1 rfl (Nat.le_of_ble_eq_true rfl) dX7_copyFrom_30 (fun H locs hP hS => ?_)
  have e0 := Option.some.inj hf
  subst e0
  exact hret _ _ _ _ hP hS dX7_copyFrom_33
def fX6_isFrom (F : Nat) (τ : Tau) (x1 : Int32) (x2 : Int32) (x3 : Int32) : Option (Int32) := (fX4_keyOf F τ x1).bind fun q1 => (if q1 = (-1 : Int32) then (some (0 : Int32)) else (if q1 < x2 then (some (0 : Int32)) else (if x3 < q1 then (some (0 : Int32)) else (some (1 : Int32)))))
abbrev rX6_isFrom : Room := { frames := 1, cells := 0, slots := 0, locals := 21 }
theorem wX6_isFrom : kF yX6_isFrom cX6_isFrom 5 (some .boolean) 4 := ⟨kCO_yX6_isFrom, kSM_yX6_isFrom, kIN_RX6, by decide +kernel, by decide +kernel, by decide +kernel⟩
set_option maxHeartbeats 4000000 in
set_option maxRecDepth 100000 in
theorem tX6_isFrom {l : Launch} {D : va_G} {cI cT cM : ClassId} {ad : Nat → Nat} (hD : gInj 167 ad) {F : Nat} {σ : Sig} {i : Nat} (hi : i < 16) {τ : Tau} {x1 : Int32} {x2 : Int32} {x3 : Int32} {res : Int32} (hf : fX6_isFrom F τ x1 x2 x3 = some res) : CTi l yX6_isFrom cX6_isFrom 5 .boolean rX6_isFrom D (cTy cI cT cM) (gA 167 ad) [.ref (ad (10 * i + 1)), .int x1, .int x2, .int x3] (cw cI cT cM ad (u3 σ i τ)) res (cw cI cT cM ad (u3 σ i τ)) := by
  refine ct_bool (by decide) (Nat.le_of_ble_eq_true rfl) ?_
  intro p e s m args below meth c Q ls hx hb hml hown ht hX hret hP hS hl
  have hl : lv_has ls 5 [(0, .ref (ad (10 * i + 1))), (1, .int x1), (2, .int x2), (3, .int x3)] := hl
  unfold fX6_isFrom at hf
  refine lv_aload_n hx hb dX6_isFrom_0 rfl (lv_at hl 0 rfl) ?_
  refine lv_iload_n hx hb dX6_isFrom_1 rfl (lv_at hl 1 rfl) ?_
  obtain ⟨q1, hq1, hf⟩ := obE hf
  refine ct_cVi (rest := []) (tX4_keyOf hD hi hq1) hx hb hml hown ht hX hP hS wX4_keyOf kML_RX6_9 rfl rfl ⟨Nat.le_of_ble_eq_true rfl, Nat.le_of_ble_eq_true rfl⟩ (va_recv hX.1 hP rfl (ct_nodes hi)) rfl hl.1 rfl (Nat.le_of_ble_eq_true rfl) dX6_isFrom_2 (fun H locs hP hS => ?_)
  refine lv_istore (lv' := [(4, .int q1), (0, .ref (ad (10 * i + 1))), (1, .int x1), (2, .int x2), (3, .int x3)]) hx hb dX6_isFrom_5 hl (by decide) rfl (fun ls hl => ?_)
  refine lv_iload hx hb dX6_isFrom_7 (lv_at hl 0 rfl) ?_
  refine lv_iconst (v := (-1 : Int32)) hx hb dX6_isFrom_9 (by decide) ?_
  refine lv_icmp_eq (tgt := 29) hx hb dX6_isFrom_10 (by decide) (fun hc2 => ?_) (fun hc2 => ?_)
  · rw [if_pos hc2] at hf
    refine lv_iconst (v := (0 : Int32)) hx hb dX6_isFrom_29 (by decide) ?_
    have e0 := Option.some.inj hf
    subst e0
    exact hret _ _ _ _ (Or.inl rfl) hP hS dX6_isFrom_30
  · rw [if_neg hc2] at hf
    refine lv_iload hx hb dX6_isFrom_13 (lv_at hl 0 rfl) ?_
    refine lv_iload_n hx hb dX6_isFrom_15 rfl (lv_at hl 3 rfl) ?_
    refine lv_icmp_lt (tgt := 29) hx hb dX6_isFrom_16 (by decide) (fun hc3 => ?_) (fun hc3 => ?_)
    · rw [if_pos hc3] at hf
      refine lv_iconst (v := (0 : Int32)) hx hb dX6_isFrom_29 (by decide) ?_
      have e0 := Option.some.inj hf
      subst e0
      exact hret _ _ _ _ (Or.inl rfl) hP hS dX6_isFrom_30
    · rw [if_neg hc3] at hf
      refine lv_iload hx hb dX6_isFrom_19 (lv_at hl 0 rfl) ?_
      refine lv_iload_n hx hb dX6_isFrom_21 rfl (lv_at hl 4 rfl) ?_
      refine lv_icmp_gt (tgt := 29) hx hb dX6_isFrom_22 (by decide) (fun hc4 => ?_) (fun hc4 => ?_)
      · rw [if_pos hc4] at hf
        refine lv_iconst (v := (0 : Int32)) hx hb dX6_isFrom_29 (by decide) ?_
        have e0 := Option.some.inj hf
        subst e0
        exact hret _ _ _ _ (Or.inl rfl) hP hS dX6_isFrom_30
      · rw [if_neg hc4] at hf
        refine lv_iconst (v := (1 : Int32)) hx hb dX6_isFrom_25 (by decide) ?_
        refine lv_goto (tgt := 30) hx hb dX6_isFrom_26 (by decide) ?_
        have e0 := Option.some.inj hf
        subst e0
        exact hret _ _ _ _ (Or.inr rfl) hP hS dX6_isFrom_30
def fX6_howManyFrom_5 (F : Nat) (τ : Tau) : Nat → Int32 → Int32 → Int32 → Int32 → Option (Int32)
  | 0, _, _, _, _ => none
  | n + 1, x1, x2, x3, x4 => if (60 : Int32) ≤ x4 then (some x3) else ((fX6_isFrom F τ x4 x1 x2).bind fun q2 => (if q2 = 0 then (fX6_howManyFrom_5 F τ n x1 x2 x3 (x4 + (1 : Int32))) else (fX6_howManyFrom_5 F τ n x1 x2 (x3 + (1 : Int32)) (x4 + (1 : Int32)))))
def fX6_howManyFrom (F : Nat) (τ : Tau) (x1 : Int32) (x2 : Int32) : Option (Int32) := fX6_howManyFrom_5 F τ F x1 x2 (0 : Int32) (0 : Int32)
abbrev rX6_howManyFrom : Room := { frames := 2, cells := 0, slots := 0, locals := 45 }
theorem wX6_howManyFrom : kF yX6_howManyFrom cX6_howManyFrom 5 (some .int) 3 := ⟨kCO_yX6_howManyFrom, kSM_yX6_howManyFrom, kIN_RX6, by decide +kernel, by decide +kernel, by decide +kernel⟩
set_option maxHeartbeats 4000000 in
set_option maxRecDepth 100000 in
theorem tX6_howManyFrom {l : Launch} {D : va_G} {cI cT cM : ClassId} {ad : Nat → Nat} (hD : gInj 167 ad) {F : Nat} {σ : Sig} {i : Nat} (hi : i < 16) {τ : Tau} {x1 : Int32} {x2 : Int32} {res : Int32} (hf : fX6_howManyFrom F τ x1 x2 = some res) : CTi l yX6_howManyFrom cX6_howManyFrom 5 .int rX6_howManyFrom D (cTy cI cT cM) (gA 167 ad) [.ref (ad (10 * i + 1)), .int x1, .int x2] (cw cI cT cM ad (u3 σ i τ)) res (cw cI cT cM ad (u3 σ i τ)) := by
  refine ct_int (by decide) (Nat.le_of_ble_eq_true rfl) ?_
  intro p e s m args below meth c Q ls hx hb hml hown ht hX hret hP hS hl
  have hl : lv_has ls 5 [(0, .ref (ad (10 * i + 1))), (1, .int x1), (2, .int x2)] := hl
  have blk5 : ∀ (n5 : Nat) (H : Heap) (locs : List Loc) (x1 : Int32) (x2 : Int32) (x3 : Int32) (x4 : Int32) (ls : Array Slot), va_P D vwCl (cw cI cT cM ad (u3 σ i τ)) H → va_S (gA 167 ad) s.heap H locs → lv_has ls 5 [(0, .ref (ad (10 * i + 1))), (1, .int x1), (2, .int x2), (3, .int x3), (4, .int x4)] → fX6_howManyFrom_5 F τ n5 x1 x2 x3 x4 = some res → W p l e rX6_howManyFrom s m args below meth c H locs 0 0 Q (F0 m 5 ls []) := by
    intro n5
    induction n5 with
    | zero =>
      intro H locs x1 x2 x3 x4 ls hP hS hl hf
      rw [fX6_howManyFrom_5] at hf
      cases hf
    | succ n5 ih5 =>
      skip
      intro H locs x1 x2 x3 x4 ls hP hS hl hf
      rw [fX6_howManyFrom_5] at hf
      refine lv_iload hx hb dX6_howManyFrom_5 (lv_at hl 4 rfl) ?_
      refine lv_bipush (v := (60 : Int32)) hx hb dX6_howManyFrom_7 (by decide) ?_
      refine lv_icmp_ge (tgt := 32) hx hb dX6_howManyFrom_9 (by decide) (fun hc1 => ?_) (fun hc1 => ?_)
      · rw [if_pos hc1] at hf
        refine lv_iload_n hx hb dX6_howManyFrom_32 rfl (lv_at hl 3 rfl) ?_
        have e0 := Option.some.inj hf
        subst e0
        exact hret _ _ _ _ hP hS dX6_howManyFrom_33
      · rw [if_neg hc1] at hf
        refine lv_aload_n hx hb dX6_howManyFrom_12 rfl (lv_at hl 0 rfl) ?_
        refine lv_iload hx hb dX6_howManyFrom_13 (lv_at hl 4 rfl) ?_
        refine lv_iload_n hx hb dX6_howManyFrom_15 rfl (lv_at hl 1 rfl) ?_
        refine lv_iload_n hx hb dX6_howManyFrom_16 rfl (lv_at hl 2 rfl) ?_
        obtain ⟨q2, hq2, hf⟩ := obE hf
        refine ct_cSi (rest := []) (tX6_isFrom hD hi hq2) hx hb hml hown ht hX hP hS wX6_isFrom kML_RX6_15 rfl rfl ⟨Nat.le_of_ble_eq_true rfl, Nat.le_of_ble_eq_true rfl⟩ rfl hl.1 rfl (Nat.le_of_ble_eq_true rfl) dX6_howManyFrom_17 (fun H locs hP hS => ?_)
        refine lv_if_eq (tgt := 26) hx hb dX6_howManyFrom_20 (by decide) (fun hc3 => ?_) (fun hc3 => ?_)
        · rw [if_pos hc3] at hf
          refine lv_iinc (v := x4 + (1 : Int32)) (lv' := [(4, .int (x4 + (1 : Int32))), (0, .ref (ad (10 * i + 1))), (1, .int x1), (2, .int x2), (3, .int x3)]) hx hb dX6_howManyFrom_26 hl (k := 4) rfl rfl (by decide) rfl (fun ls hl => ?_)
          refine lv_goto (tgt := 5) hx hb dX6_howManyFrom_29 (by decide) ?_
          exact ih5 _ _ x1 x2 x3 (x4 + (1 : Int32)) ls hP hS (lv_sub hl [1, 2, 3, 4, 0] rfl) hf
        · rw [if_neg hc3] at hf
          refine lv_iinc (v := x3 + (1 : Int32)) (lv' := [(3, .int (x3 + (1 : Int32))), (0, .ref (ad (10 * i + 1))), (1, .int x1), (2, .int x2), (4, .int x4)]) hx hb dX6_howManyFrom_23 hl (k := 3) rfl rfl (by decide) rfl (fun ls hl => ?_)
          refine lv_iinc (v := x4 + (1 : Int32)) (lv' := [(4, .int (x4 + (1 : Int32))), (3, .int (x3 + (1 : Int32))), (0, .ref (ad (10 * i + 1))), (1, .int x1), (2, .int x2)]) hx hb dX6_howManyFrom_26 hl (k := 4) rfl rfl (by decide) rfl (fun ls hl => ?_)
          refine lv_goto (tgt := 5) hx hb dX6_howManyFrom_29 (by decide) ?_
          exact ih5 _ _ x1 x2 (x3 + (1 : Int32)) (x4 + (1 : Int32)) ls hP hS (lv_sub hl [2, 3, 4, 1, 0] rfl) hf
  unfold fX6_howManyFrom at hf
  refine lv_iconst (v := (0 : Int32)) hx hb dX6_howManyFrom_0 (by decide) ?_
  refine lv_istore_n (lv' := [(3, .int ((0 : Int32))), (0, .ref (ad (10 * i + 1))), (1, .int x1), (2, .int x2)]) hx hb dX6_howManyFrom_1 rfl hl (by decide) rfl (fun ls hl => ?_)
  refine lv_iconst (v := (0 : Int32)) hx hb dX6_howManyFrom_2 (by decide) ?_
  refine lv_istore (lv' := [(4, .int ((0 : Int32))), (3, .int ((0 : Int32))), (0, .ref (ad (10 * i + 1))), (1, .int x1), (2, .int x2)]) hx hb dX6_howManyFrom_3 hl (by decide) rfl (fun ls hl => ?_)
  exact blk5 F _ _ x1 x2 (0 : Int32) (0 : Int32) ls hP hS (lv_sub hl [2, 3, 4, 1, 0] rfl) hf
def fX6_worthFrom_5 (F : Nat) (τ : Tau) : Nat → Int32 → Int32 → Int32 → Int32 → Option (Int32)
  | 0, _, _, _, _ => none
  | n + 1, x1, x2, x3, x4 => if (60 : Int32) ≤ x4 then (some x3) else ((fX6_isFrom F τ x4 x1 x2).bind fun q2 => (if q2 = 0 then (fX6_worthFrom_5 F τ n x1 x2 x3 (x4 + (1 : Int32))) else ((fX4_worthOf F τ x4).bind fun q4 => (fX6_worthFrom_5 F τ n x1 x2 (x3 + q4) (x4 + (1 : Int32))))))
def fX6_worthFrom (F : Nat) (τ : Tau) (x1 : Int32) (x2 : Int32) : Option (Int32) := fX6_worthFrom_5 F τ F x1 x2 (0 : Int32) (0 : Int32)
abbrev rX6_worthFrom : Room := { frames := 2, cells := 0, slots := 0, locals := 45 }
theorem wX6_worthFrom : kF yX6_worthFrom cX6_worthFrom 5 (some .int) 3 := ⟨kCO_yX6_worthFrom, kSM_yX6_worthFrom, kIN_RX6, by decide +kernel, by decide +kernel, by decide +kernel⟩
set_option maxHeartbeats 4000000 in
set_option maxRecDepth 100000 in
theorem tX6_worthFrom {l : Launch} {D : va_G} {cI cT cM : ClassId} {ad : Nat → Nat} (hD : gInj 167 ad) {F : Nat} {σ : Sig} {i : Nat} (hi : i < 16) {τ : Tau} {x1 : Int32} {x2 : Int32} {res : Int32} (hf : fX6_worthFrom F τ x1 x2 = some res) : CTi l yX6_worthFrom cX6_worthFrom 5 .int rX6_worthFrom D (cTy cI cT cM) (gA 167 ad) [.ref (ad (10 * i + 1)), .int x1, .int x2] (cw cI cT cM ad (u3 σ i τ)) res (cw cI cT cM ad (u3 σ i τ)) := by
  refine ct_int (by decide) (Nat.le_of_ble_eq_true rfl) ?_
  intro p e s m args below meth c Q ls hx hb hml hown ht hX hret hP hS hl
  have hl : lv_has ls 5 [(0, .ref (ad (10 * i + 1))), (1, .int x1), (2, .int x2)] := hl
  have blk5 : ∀ (n5 : Nat) (H : Heap) (locs : List Loc) (x1 : Int32) (x2 : Int32) (x3 : Int32) (x4 : Int32) (ls : Array Slot), va_P D vwCl (cw cI cT cM ad (u3 σ i τ)) H → va_S (gA 167 ad) s.heap H locs → lv_has ls 5 [(0, .ref (ad (10 * i + 1))), (1, .int x1), (2, .int x2), (3, .int x3), (4, .int x4)] → fX6_worthFrom_5 F τ n5 x1 x2 x3 x4 = some res → W p l e rX6_worthFrom s m args below meth c H locs 0 0 Q (F0 m 5 ls []) := by
    intro n5
    induction n5 with
    | zero =>
      intro H locs x1 x2 x3 x4 ls hP hS hl hf
      rw [fX6_worthFrom_5] at hf
      cases hf
    | succ n5 ih5 =>
      skip
      intro H locs x1 x2 x3 x4 ls hP hS hl hf
      rw [fX6_worthFrom_5] at hf
      refine lv_iload hx hb dX6_worthFrom_5 (lv_at hl 4 rfl) ?_
      refine lv_bipush (v := (60 : Int32)) hx hb dX6_worthFrom_7 (by decide) ?_
      refine lv_icmp_ge (tgt := 38) hx hb dX6_worthFrom_9 (by decide) (fun hc1 => ?_) (fun hc1 => ?_)
      · rw [if_pos hc1] at hf
        refine lv_iload_n hx hb dX6_worthFrom_38 rfl (lv_at hl 3 rfl) ?_
        have e0 := Option.some.inj hf
        subst e0
        exact hret _ _ _ _ hP hS dX6_worthFrom_39
      · rw [if_neg hc1] at hf
        refine lv_aload_n hx hb dX6_worthFrom_12 rfl (lv_at hl 0 rfl) ?_
        refine lv_iload hx hb dX6_worthFrom_13 (lv_at hl 4 rfl) ?_
        refine lv_iload_n hx hb dX6_worthFrom_15 rfl (lv_at hl 1 rfl) ?_
        refine lv_iload_n hx hb dX6_worthFrom_16 rfl (lv_at hl 2 rfl) ?_
        obtain ⟨q2, hq2, hf⟩ := obE hf
        refine ct_cSi (rest := []) (tX6_isFrom hD hi hq2) hx hb hml hown ht hX hP hS wX6_isFrom kML_RX6_15 rfl rfl ⟨Nat.le_of_ble_eq_true rfl, Nat.le_of_ble_eq_true rfl⟩ rfl hl.1 rfl (Nat.le_of_ble_eq_true rfl) dX6_worthFrom_17 (fun H locs hP hS => ?_)
        refine lv_if_eq (tgt := 32) hx hb dX6_worthFrom_20 (by decide) (fun hc3 => ?_) (fun hc3 => ?_)
        · rw [if_pos hc3] at hf
          refine lv_iinc (v := x4 + (1 : Int32)) (lv' := [(4, .int (x4 + (1 : Int32))), (0, .ref (ad (10 * i + 1))), (1, .int x1), (2, .int x2), (3, .int x3)]) hx hb dX6_worthFrom_32 hl (k := 4) rfl rfl (by decide) rfl (fun ls hl => ?_)
          refine lv_goto (tgt := 5) hx hb dX6_worthFrom_35 (by decide) ?_
          exact ih5 _ _ x1 x2 x3 (x4 + (1 : Int32)) ls hP hS (lv_sub hl [1, 2, 3, 4, 0] rfl) hf
        · rw [if_neg hc3] at hf
          refine lv_iload_n hx hb dX6_worthFrom_23 rfl (lv_at hl 3 rfl) ?_
          refine lv_aload_n hx hb dX6_worthFrom_24 rfl (lv_at hl 0 rfl) ?_
          refine lv_iload hx hb dX6_worthFrom_25 (lv_at hl 4 rfl) ?_
          obtain ⟨q4, hq4, hf⟩ := obE hf
          refine ct_cVi (rest := [.int x3]) (tX4_worthOf hD hi hq4) hx hb hml hown ht hX hP hS wX4_worthOf kML_RX6_21 rfl rfl ⟨Nat.le_of_ble_eq_true rfl, Nat.le_of_ble_eq_true rfl⟩ (va_recv hX.1 hP rfl (ct_nodes hi)) rfl hl.1 rfl (Nat.le_of_ble_eq_true rfl) dX6_worthFrom_27 (fun H locs hP hS => ?_)
          refine lv_iadd hx hb dX6_worthFrom_30 ?_
          refine lv_istore_n (lv' := [(3, .int (x3 + q4)), (0, .ref (ad (10 * i + 1))), (1, .int x1), (2, .int x2), (4, .int x4)]) hx hb dX6_worthFrom_31 rfl hl (by decide) rfl (fun ls hl => ?_)
          refine lv_iinc (v := x4 + (1 : Int32)) (lv' := [(4, .int (x4 + (1 : Int32))), (3, .int (x3 + q4)), (0, .ref (ad (10 * i + 1))), (1, .int x1), (2, .int x2)]) hx hb dX6_worthFrom_32 hl (k := 4) rfl rfl (by decide) rfl (fun ls hl => ?_)
          refine lv_goto (tgt := 5) hx hb dX6_worthFrom_35 (by decide) ?_
          exact ih5 _ _ x1 x2 (x3 + q4) (x4 + (1 : Int32)) ls hP hS (lv_sub hl [2, 3, 4, 1, 0] rfl) hf
  unfold fX6_worthFrom at hf
  refine lv_iconst (v := (0 : Int32)) hx hb dX6_worthFrom_0 (by decide) ?_
  refine lv_istore_n (lv' := [(3, .int ((0 : Int32))), (0, .ref (ad (10 * i + 1))), (1, .int x1), (2, .int x2)]) hx hb dX6_worthFrom_1 rfl hl (by decide) rfl (fun ls hl => ?_)
  refine lv_iconst (v := (0 : Int32)) hx hb dX6_worthFrom_2 (by decide) ?_
  refine lv_istore (lv' := [(4, .int ((0 : Int32))), (3, .int ((0 : Int32))), (0, .ref (ad (10 * i + 1))), (1, .int x1), (2, .int x2)]) hx hb dX6_worthFrom_3 hl (by decide) rfl (fun ls hl => ?_)
  exact blk5 F _ _ x1 x2 (0 : Int32) (0 : Int32) ls hP hS (lv_sub hl [2, 3, 4, 1, 0] rfl) hf
def fX6_isWorthier (F : Nat) (τ : Tau) (x1 : Int32) (x2 : Int32) : Option (Int32) := (fX4_worthOf F τ x1).bind fun q1 => ((fX4_worthOf F τ x2).bind fun q2 => (if q1 = q2 then ((fX4_keyOf F τ x1).bind fun q4 => ((fX4_keyOf F τ x2).bind fun q5 => (if q5 ≤ q4 then (some (0 : Int32)) else (some (1 : Int32))))) else ((fX4_worthOf F τ x1).bind fun q7 => ((fX4_worthOf F τ x2).bind fun q8 => (if q7 ≤ q8 then (some (0 : Int32)) else (some (1 : Int32)))))))
abbrev rX6_isWorthier : Room := { frames := 1, cells := 0, slots := 0, locals := 21 }
theorem wX6_isWorthier : kF yX6_isWorthier cX6_isWorthier 3 (some .boolean) 3 := ⟨kCO_yX6_isWorthier, kSM_yX6_isWorthier, kIN_RX6, by decide +kernel, by decide +kernel, by decide +kernel⟩
set_option maxHeartbeats 4000000 in
set_option maxRecDepth 100000 in
theorem tX6_isWorthier {l : Launch} {D : va_G} {cI cT cM : ClassId} {ad : Nat → Nat} (hD : gInj 167 ad) {F : Nat} {σ : Sig} {i : Nat} (hi : i < 16) {τ : Tau} {x1 : Int32} {x2 : Int32} {res : Int32} (hf : fX6_isWorthier F τ x1 x2 = some res) : CTi l yX6_isWorthier cX6_isWorthier 3 .boolean rX6_isWorthier D (cTy cI cT cM) (gA 167 ad) [.ref (ad (10 * i + 1)), .int x1, .int x2] (cw cI cT cM ad (u3 σ i τ)) res (cw cI cT cM ad (u3 σ i τ)) := by
  refine ct_bool (by decide) (Nat.le_of_ble_eq_true rfl) ?_
  intro p e s m args below meth c Q ls hx hb hml hown ht hX hret hP hS hl
  have hl : lv_has ls 3 [(0, .ref (ad (10 * i + 1))), (1, .int x1), (2, .int x2)] := hl
  unfold fX6_isWorthier at hf
  refine lv_aload_n hx hb dX6_isWorthier_0 rfl (lv_at hl 0 rfl) ?_
  refine lv_iload_n hx hb dX6_isWorthier_1 rfl (lv_at hl 1 rfl) ?_
  obtain ⟨q1, hq1, hf⟩ := obE hf
  refine ct_cVi (rest := []) (tX4_worthOf hD hi hq1) hx hb hml hown ht hX hP hS wX4_worthOf kML_RX6_21 rfl rfl ⟨Nat.le_of_ble_eq_true rfl, Nat.le_of_ble_eq_true rfl⟩ (va_recv hX.1 hP rfl (ct_nodes hi)) rfl hl.1 rfl (Nat.le_of_ble_eq_true rfl) dX6_isWorthier_2 (fun H locs hP hS => ?_)
  refine lv_aload_n hx hb dX6_isWorthier_5 rfl (lv_at hl 0 rfl) ?_
  refine lv_iload_n hx hb dX6_isWorthier_6 rfl (lv_at hl 2 rfl) ?_
  obtain ⟨q2, hq2, hf⟩ := obE hf
  refine ct_cVi (rest := [.int q1]) (tX4_worthOf hD hi hq2) hx hb hml hown ht hX hP hS wX4_worthOf kML_RX6_21 rfl rfl ⟨Nat.le_of_ble_eq_true rfl, Nat.le_of_ble_eq_true rfl⟩ (va_recv hX.1 hP rfl (ct_nodes hi)) rfl hl.1 rfl (Nat.le_of_ble_eq_true rfl) dX6_isWorthier_7 (fun H locs hP hS => ?_)
  refine lv_icmp_eq (tgt := 32) hx hb dX6_isWorthier_10 (by decide) (fun hc3 => ?_) (fun hc3 => ?_)
  · rw [if_pos hc3] at hf
    refine lv_aload_n hx hb dX6_isWorthier_32 rfl (lv_at hl 0 rfl) ?_
    refine lv_iload_n hx hb dX6_isWorthier_33 rfl (lv_at hl 1 rfl) ?_
    obtain ⟨q4, hq4, hf⟩ := obE hf
    refine ct_cVi (rest := []) (tX4_keyOf hD hi hq4) hx hb hml hown ht hX hP hS wX4_keyOf kML_RX6_9 rfl rfl ⟨Nat.le_of_ble_eq_true rfl, Nat.le_of_ble_eq_true rfl⟩ (va_recv hX.1 hP rfl (ct_nodes hi)) rfl hl.1 rfl (Nat.le_of_ble_eq_true rfl) dX6_isWorthier_34 (fun H locs hP hS => ?_)
    refine lv_aload_n hx hb dX6_isWorthier_37 rfl (lv_at hl 0 rfl) ?_
    refine lv_iload_n hx hb dX6_isWorthier_38 rfl (lv_at hl 2 rfl) ?_
    obtain ⟨q5, hq5, hf⟩ := obE hf
    refine ct_cVi (rest := [.int q4]) (tX4_keyOf hD hi hq5) hx hb hml hown ht hX hP hS wX4_keyOf kML_RX6_9 rfl rfl ⟨Nat.le_of_ble_eq_true rfl, Nat.le_of_ble_eq_true rfl⟩ (va_recv hX.1 hP rfl (ct_nodes hi)) rfl hl.1 rfl (Nat.le_of_ble_eq_true rfl) dX6_isWorthier_39 (fun H locs hP hS => ?_)
    refine lv_icmp_ge (tgt := 49) hx hb dX6_isWorthier_42 (by decide) (fun hc6 => ?_) (fun hc6 => ?_)
    · rw [if_pos hc6] at hf
      refine lv_iconst (v := (0 : Int32)) hx hb dX6_isWorthier_49 (by decide) ?_
      have e0 := Option.some.inj hf
      subst e0
      exact hret _ _ _ _ (Or.inl rfl) hP hS dX6_isWorthier_50
    · rw [if_neg hc6] at hf
      refine lv_iconst (v := (1 : Int32)) hx hb dX6_isWorthier_45 (by decide) ?_
      refine lv_goto (tgt := 50) hx hb dX6_isWorthier_46 (by decide) ?_
      have e0 := Option.some.inj hf
      subst e0
      exact hret _ _ _ _ (Or.inr rfl) hP hS dX6_isWorthier_50
  · rw [if_neg hc3] at hf
    refine lv_aload_n hx hb dX6_isWorthier_13 rfl (lv_at hl 0 rfl) ?_
    refine lv_iload_n hx hb dX6_isWorthier_14 rfl (lv_at hl 1 rfl) ?_
    obtain ⟨q7, hq7, hf⟩ := obE hf
    refine ct_cVi (rest := []) (tX4_worthOf hD hi hq7) hx hb hml hown ht hX hP hS wX4_worthOf kML_RX6_21 rfl rfl ⟨Nat.le_of_ble_eq_true rfl, Nat.le_of_ble_eq_true rfl⟩ (va_recv hX.1 hP rfl (ct_nodes hi)) rfl hl.1 rfl (Nat.le_of_ble_eq_true rfl) dX6_isWorthier_15 (fun H locs hP hS => ?_)
    refine lv_aload_n hx hb dX6_isWorthier_18 rfl (lv_at hl 0 rfl) ?_
    refine lv_iload_n hx hb dX6_isWorthier_19 rfl (lv_at hl 2 rfl) ?_
    obtain ⟨q8, hq8, hf⟩ := obE hf
    refine ct_cVi (rest := [.int q7]) (tX4_worthOf hD hi hq8) hx hb hml hown ht hX hP hS wX4_worthOf kML_RX6_21 rfl rfl ⟨Nat.le_of_ble_eq_true rfl, Nat.le_of_ble_eq_true rfl⟩ (va_recv hX.1 hP rfl (ct_nodes hi)) rfl hl.1 rfl (Nat.le_of_ble_eq_true rfl) dX6_isWorthier_20 (fun H locs hP hS => ?_)
    refine lv_icmp_le (tgt := 30) hx hb dX6_isWorthier_23 (by decide) (fun hc9 => ?_) (fun hc9 => ?_)
    · rw [if_pos hc9] at hf
      refine lv_iconst (v := (0 : Int32)) hx hb dX6_isWorthier_30 (by decide) ?_
      have e0 := Option.some.inj hf
      subst e0
      exact hret _ _ _ _ (Or.inl rfl) hP hS dX6_isWorthier_31
    · rw [if_neg hc9] at hf
      refine lv_iconst (v := (1 : Int32)) hx hb dX6_isWorthier_26 (by decide) ?_
      refine lv_goto (tgt := 31) hx hb dX6_isWorthier_27 (by decide) ?_
      have e0 := Option.some.inj hf
      subst e0
      exact hret _ _ _ _ (Or.inr rfl) hP hS dX6_isWorthier_31
def fX6_mostWorthFrom_5 (F : Nat) (τ : Tau) : Nat → Int32 → Int32 → Int32 → Int32 → Option (Int32)
  | 0, _, _, _, _ => none
  | n + 1, x1, x2, x3, x4 => if (60 : Int32) ≤ x4 then ((fX4_keyOf F τ x3).bind fun q2 => (some q2)) else ((fX6_isFrom F τ x4 x1 x2).bind fun q3 => (if q3 = 0 then (fX6_mostWorthFrom_5 F τ n x1 x2 x3 (x4 + (1 : Int32))) else (if x3 = (-1 : Int32) then (fX6_mostWorthFrom_5 F τ n x1 x2 x4 (x4 + (1 : Int32))) else ((fX6_isWorthier F τ x4 x3).bind fun q6 => (if q6 = 0 then (fX6_mostWorthFrom_5 F τ n x1 x2 x3 (x4 + (1 : Int32))) else (fX6_mostWorthFrom_5 F τ n x1 x2 x4 (x4 + (1 : Int32))))))))
def fX6_mostWorthFrom (F : Nat) (τ : Tau) (x1 : Int32) (x2 : Int32) : Option (Int32) := fX6_mostWorthFrom_5 F τ F x1 x2 (-1 : Int32) (0 : Int32)
abbrev rX6_mostWorthFrom : Room := { frames := 2, cells := 0, slots := 0, locals := 45 }
theorem wX6_mostWorthFrom : kF yX6_mostWorthFrom cX6_mostWorthFrom 5 (some .int) 3 := ⟨kCO_yX6_mostWorthFrom, kSM_yX6_mostWorthFrom, kIN_RX6, by decide +kernel, by decide +kernel, by decide +kernel⟩
set_option maxHeartbeats 4000000 in
set_option maxRecDepth 100000 in
theorem tX6_mostWorthFrom {l : Launch} {D : va_G} {cI cT cM : ClassId} {ad : Nat → Nat} (hD : gInj 167 ad) {F : Nat} {σ : Sig} {i : Nat} (hi : i < 16) {τ : Tau} {x1 : Int32} {x2 : Int32} {res : Int32} (hf : fX6_mostWorthFrom F τ x1 x2 = some res) : CTi l yX6_mostWorthFrom cX6_mostWorthFrom 5 .int rX6_mostWorthFrom D (cTy cI cT cM) (gA 167 ad) [.ref (ad (10 * i + 1)), .int x1, .int x2] (cw cI cT cM ad (u3 σ i τ)) res (cw cI cT cM ad (u3 σ i τ)) := by
  refine ct_int (by decide) (Nat.le_of_ble_eq_true rfl) ?_
  intro p e s m args below meth c Q ls hx hb hml hown ht hX hret hP hS hl
  have hl : lv_has ls 5 [(0, .ref (ad (10 * i + 1))), (1, .int x1), (2, .int x2)] := hl
  have blk5 : ∀ (n5 : Nat) (H : Heap) (locs : List Loc) (x1 : Int32) (x2 : Int32) (x3 : Int32) (x4 : Int32) (ls : Array Slot), va_P D vwCl (cw cI cT cM ad (u3 σ i τ)) H → va_S (gA 167 ad) s.heap H locs → lv_has ls 5 [(0, .ref (ad (10 * i + 1))), (1, .int x1), (2, .int x2), (3, .int x3), (4, .int x4)] → fX6_mostWorthFrom_5 F τ n5 x1 x2 x3 x4 = some res → W p l e rX6_mostWorthFrom s m args below meth c H locs 0 0 Q (F0 m 5 ls []) := by
    intro n5
    induction n5 with
    | zero =>
      intro H locs x1 x2 x3 x4 ls hP hS hl hf
      rw [fX6_mostWorthFrom_5] at hf
      cases hf
    | succ n5 ih5 =>
      skip
      intro H locs x1 x2 x3 x4 ls hP hS hl hf
      rw [fX6_mostWorthFrom_5] at hf
      refine lv_iload hx hb dX6_mostWorthFrom_5 (lv_at hl 4 rfl) ?_
      refine lv_bipush (v := (60 : Int32)) hx hb dX6_mostWorthFrom_7 (by decide) ?_
      refine lv_icmp_ge (tgt := 47) hx hb dX6_mostWorthFrom_9 (by decide) (fun hc1 => ?_) (fun hc1 => ?_)
      · rw [if_pos hc1] at hf
        refine lv_aload_n hx hb dX6_mostWorthFrom_47 rfl (lv_at hl 0 rfl) ?_
        refine lv_iload_n hx hb dX6_mostWorthFrom_48 rfl (lv_at hl 3 rfl) ?_
        obtain ⟨q2, hq2, hf⟩ := obE hf
        refine ct_cVi (rest := []) (tX4_keyOf hD hi hq2) hx hb hml hown ht hX hP hS wX4_keyOf kML_RX6_9 rfl rfl ⟨Nat.le_of_ble_eq_true rfl, Nat.le_of_ble_eq_true rfl⟩ (va_recv hX.1 hP rfl (ct_nodes hi)) rfl hl.1 rfl (Nat.le_of_ble_eq_true rfl) dX6_mostWorthFrom_49 (fun H locs hP hS => ?_)
        have e0 := Option.some.inj hf
        subst e0
        exact hret _ _ _ _ hP hS dX6_mostWorthFrom_52
      · rw [if_neg hc1] at hf
        refine lv_aload_n hx hb dX6_mostWorthFrom_12 rfl (lv_at hl 0 rfl) ?_
        refine lv_iload hx hb dX6_mostWorthFrom_13 (lv_at hl 4 rfl) ?_
        refine lv_iload_n hx hb dX6_mostWorthFrom_15 rfl (lv_at hl 1 rfl) ?_
        refine lv_iload_n hx hb dX6_mostWorthFrom_16 rfl (lv_at hl 2 rfl) ?_
        obtain ⟨q3, hq3, hf⟩ := obE hf
        refine ct_cSi (rest := []) (tX6_isFrom hD hi hq3) hx hb hml hown ht hX hP hS wX6_isFrom kML_RX6_15 rfl rfl ⟨Nat.le_of_ble_eq_true rfl, Nat.le_of_ble_eq_true rfl⟩ rfl hl.1 rfl (Nat.le_of_ble_eq_true rfl) dX6_mostWorthFrom_17 (fun H locs hP hS => ?_)
        refine lv_if_eq (tgt := 41) hx hb dX6_mostWorthFrom_20 (by decide) (fun hc4 => ?_) (fun hc4 => ?_)
        · rw [if_pos hc4] at hf
          refine lv_iinc (v := x4 + (1 : Int32)) (lv' := [(4, .int (x4 + (1 : Int32))), (0, .ref (ad (10 * i + 1))), (1, .int x1), (2, .int x2), (3, .int x3)]) hx hb dX6_mostWorthFrom_41 hl (k := 4) rfl rfl (by decide) rfl (fun ls hl => ?_)
          refine lv_goto (tgt := 5) hx hb dX6_mostWorthFrom_44 (by decide) ?_
          exact ih5 _ _ x1 x2 x3 (x4 + (1 : Int32)) ls hP hS (lv_sub hl [1, 2, 3, 4, 0] rfl) hf
        · rw [if_neg hc4] at hf
          refine lv_iload_n hx hb dX6_mostWorthFrom_23 rfl (lv_at hl 3 rfl) ?_
          refine lv_iconst (v := (-1 : Int32)) hx hb dX6_mostWorthFrom_24 (by decide) ?_
          refine lv_icmp_eq (tgt := 38) hx hb dX6_mostWorthFrom_25 (by decide) (fun hc5 => ?_) (fun hc5 => ?_)
          · rw [if_pos hc5] at hf
            refine lv_iload hx hb dX6_mostWorthFrom_38 (lv_at hl 4 rfl) ?_
            refine lv_istore_n (lv' := [(3, .int x4), (0, .ref (ad (10 * i + 1))), (1, .int x1), (2, .int x2), (4, .int x4)]) hx hb dX6_mostWorthFrom_40 rfl hl (by decide) rfl (fun ls hl => ?_)
            refine lv_iinc (v := x4 + (1 : Int32)) (lv' := [(4, .int (x4 + (1 : Int32))), (3, .int x4), (0, .ref (ad (10 * i + 1))), (1, .int x1), (2, .int x2)]) hx hb dX6_mostWorthFrom_41 hl (k := 4) rfl rfl (by decide) rfl (fun ls hl => ?_)
            refine lv_goto (tgt := 5) hx hb dX6_mostWorthFrom_44 (by decide) ?_
            exact ih5 _ _ x1 x2 x4 (x4 + (1 : Int32)) ls hP hS (lv_sub hl [2, 3, 4, 1, 0] rfl) hf
          · rw [if_neg hc5] at hf
            refine lv_aload_n hx hb dX6_mostWorthFrom_28 rfl (lv_at hl 0 rfl) ?_
            refine lv_iload hx hb dX6_mostWorthFrom_29 (lv_at hl 4 rfl) ?_
            refine lv_iload_n hx hb dX6_mostWorthFrom_31 rfl (lv_at hl 3 rfl) ?_
            obtain ⟨q6, hq6, hf⟩ := obE hf
            refine ct_cSi (rest := []) (tX6_isWorthier hD hi hq6) hx hb hml hown ht hX hP hS wX6_isWorthier kML_RX6_24 rfl rfl ⟨Nat.le_of_ble_eq_true rfl, Nat.le_of_ble_eq_true rfl⟩ rfl hl.1 rfl (Nat.le_of_ble_eq_true rfl) dX6_mostWorthFrom_32 (fun H locs hP hS => ?_)
            refine lv_if_eq (tgt := 41) hx hb dX6_mostWorthFrom_35 (by decide) (fun hc7 => ?_) (fun hc7 => ?_)
            · rw [if_pos hc7] at hf
              refine lv_iinc (v := x4 + (1 : Int32)) (lv' := [(4, .int (x4 + (1 : Int32))), (0, .ref (ad (10 * i + 1))), (1, .int x1), (2, .int x2), (3, .int x3)]) hx hb dX6_mostWorthFrom_41 hl (k := 4) rfl rfl (by decide) rfl (fun ls hl => ?_)
              refine lv_goto (tgt := 5) hx hb dX6_mostWorthFrom_44 (by decide) ?_
              exact ih5 _ _ x1 x2 x3 (x4 + (1 : Int32)) ls hP hS (lv_sub hl [1, 2, 3, 4, 0] rfl) hf
            · rw [if_neg hc7] at hf
              refine lv_iload hx hb dX6_mostWorthFrom_38 (lv_at hl 4 rfl) ?_
              refine lv_istore_n (lv' := [(3, .int x4), (0, .ref (ad (10 * i + 1))), (1, .int x1), (2, .int x2), (4, .int x4)]) hx hb dX6_mostWorthFrom_40 rfl hl (by decide) rfl (fun ls hl => ?_)
              refine lv_iinc (v := x4 + (1 : Int32)) (lv' := [(4, .int (x4 + (1 : Int32))), (3, .int x4), (0, .ref (ad (10 * i + 1))), (1, .int x1), (2, .int x2)]) hx hb dX6_mostWorthFrom_41 hl (k := 4) rfl rfl (by decide) rfl (fun ls hl => ?_)
              refine lv_goto (tgt := 5) hx hb dX6_mostWorthFrom_44 (by decide) ?_
              exact ih5 _ _ x1 x2 x4 (x4 + (1 : Int32)) ls hP hS (lv_sub hl [2, 3, 4, 1, 0] rfl) hf
  unfold fX6_mostWorthFrom at hf
  refine lv_iconst (v := (-1 : Int32)) hx hb dX6_mostWorthFrom_0 (by decide) ?_
  refine lv_istore_n (lv' := [(3, .int ((-1 : Int32))), (0, .ref (ad (10 * i + 1))), (1, .int x1), (2, .int x2)]) hx hb dX6_mostWorthFrom_1 rfl hl (by decide) rfl (fun ls hl => ?_)
  refine lv_iconst (v := (0 : Int32)) hx hb dX6_mostWorthFrom_2 (by decide) ?_
  refine lv_istore (lv' := [(4, .int ((0 : Int32))), (3, .int ((-1 : Int32))), (0, .ref (ad (10 * i + 1))), (1, .int x1), (2, .int x2)]) hx hb dX6_mostWorthFrom_3 hl (by decide) rfl (fun ls hl => ?_)
  exact blk5 F _ _ x1 x2 (-1 : Int32) (0 : Int32) ls hP hS (lv_sub hl [2, 3, 4, 1, 0] rfl) hf
def fX6_howManyLess_4 (F : Nat) (τ : Tau) : Nat → Int32 → Int32 → Int32 → Option (Int32)
  | 0, _, _, _ => none
  | n + 1, x1, x2, x3 => if (60 : Int32) ≤ x3 then (some x2) else ((fX4_keyOf F τ x3).bind fun q2 => (if q2 = (-1 : Int32) then (fX6_howManyLess_4 F τ n x1 x2 (x3 + (1 : Int32))) else ((fX4_keyOf F τ x3).bind fun q4 => (if x1 ≤ q4 then (fX6_howManyLess_4 F τ n x1 x2 (x3 + (1 : Int32))) else (fX6_howManyLess_4 F τ n x1 (x2 + (1 : Int32)) (x3 + (1 : Int32)))))))
def fX6_howManyLess (F : Nat) (τ : Tau) (x1 : Int32) : Option (Int32) := fX6_howManyLess_4 F τ F x1 (0 : Int32) (0 : Int32)
abbrev rX6_howManyLess : Room := { frames := 1, cells := 0, slots := 0, locals := 21 }
theorem wX6_howManyLess : kF yX6_howManyLess cX6_howManyLess 4 (some .int) 2 := ⟨kCO_yX6_howManyLess, kSM_yX6_howManyLess, kIN_RX6, by decide +kernel, by decide +kernel, by decide +kernel⟩
set_option maxHeartbeats 4000000 in
set_option maxRecDepth 100000 in
theorem tX6_howManyLess {l : Launch} {D : va_G} {cI cT cM : ClassId} {ad : Nat → Nat} (hD : gInj 167 ad) {F : Nat} {σ : Sig} {i : Nat} (hi : i < 16) {τ : Tau} {x1 : Int32} {res : Int32} (hf : fX6_howManyLess F τ x1 = some res) : CTi l yX6_howManyLess cX6_howManyLess 4 .int rX6_howManyLess D (cTy cI cT cM) (gA 167 ad) [.ref (ad (10 * i + 1)), .int x1] (cw cI cT cM ad (u3 σ i τ)) res (cw cI cT cM ad (u3 σ i τ)) := by
  refine ct_int (by decide) (Nat.le_of_ble_eq_true rfl) ?_
  intro p e s m args below meth c Q ls hx hb hml hown ht hX hret hP hS hl
  have hl : lv_has ls 4 [(0, .ref (ad (10 * i + 1))), (1, .int x1)] := hl
  have blk4 : ∀ (n4 : Nat) (H : Heap) (locs : List Loc) (x1 : Int32) (x2 : Int32) (x3 : Int32) (ls : Array Slot), va_P D vwCl (cw cI cT cM ad (u3 σ i τ)) H → va_S (gA 167 ad) s.heap H locs → lv_has ls 4 [(0, .ref (ad (10 * i + 1))), (1, .int x1), (2, .int x2), (3, .int x3)] → fX6_howManyLess_4 F τ n4 x1 x2 x3 = some res → W p l e rX6_howManyLess s m args below meth c H locs 0 0 Q (F0 m 4 ls []) := by
    intro n4
    induction n4 with
    | zero =>
      intro H locs x1 x2 x3 ls hP hS hl hf
      rw [fX6_howManyLess_4] at hf
      cases hf
    | succ n4 ih4 =>
      skip
      intro H locs x1 x2 x3 ls hP hS hl hf
      rw [fX6_howManyLess_4] at hf
      refine lv_iload_n hx hb dX6_howManyLess_4 rfl (lv_at hl 3 rfl) ?_
      refine lv_bipush (v := (60 : Int32)) hx hb dX6_howManyLess_5 (by decide) ?_
      refine lv_icmp_ge (tgt := 37) hx hb dX6_howManyLess_7 (by decide) (fun hc1 => ?_) (fun hc1 => ?_)
      · rw [if_pos hc1] at hf
        refine lv_iload_n hx hb dX6_howManyLess_37 rfl (lv_at hl 2 rfl) ?_
        have e0 := Option.some.inj hf
        subst e0
        exact hret _ _ _ _ hP hS dX6_howManyLess_38
      · rw [if_neg hc1] at hf
        refine lv_aload_n hx hb dX6_howManyLess_10 rfl (lv_at hl 0 rfl) ?_
        refine lv_iload_n hx hb dX6_howManyLess_11 rfl (lv_at hl 3 rfl) ?_
        obtain ⟨q2, hq2, hf⟩ := obE hf
        refine ct_cVi (rest := []) (tX4_keyOf hD hi hq2) hx hb hml hown ht hX hP hS wX4_keyOf kML_RX6_9 rfl rfl ⟨Nat.le_of_ble_eq_true rfl, Nat.le_of_ble_eq_true rfl⟩ (va_recv hX.1 hP rfl (ct_nodes hi)) rfl hl.1 rfl (Nat.le_of_ble_eq_true rfl) dX6_howManyLess_12 (fun H locs hP hS => ?_)
        refine lv_iconst (v := (-1 : Int32)) hx hb dX6_howManyLess_15 (by decide) ?_
        refine lv_icmp_eq (tgt := 31) hx hb dX6_howManyLess_16 (by decide) (fun hc3 => ?_) (fun hc3 => ?_)
        · rw [if_pos hc3] at hf
          refine lv_iinc (v := x3 + (1 : Int32)) (lv' := [(3, .int (x3 + (1 : Int32))), (0, .ref (ad (10 * i + 1))), (1, .int x1), (2, .int x2)]) hx hb dX6_howManyLess_31 hl (k := 3) rfl rfl (by decide) rfl (fun ls hl => ?_)
          refine lv_goto (tgt := 4) hx hb dX6_howManyLess_34 (by decide) ?_
          exact ih4 _ _ x1 x2 (x3 + (1 : Int32)) ls hP hS (lv_sub hl [1, 2, 3, 0] rfl) hf
        · rw [if_neg hc3] at hf
          refine lv_aload_n hx hb dX6_howManyLess_19 rfl (lv_at hl 0 rfl) ?_
          refine lv_iload_n hx hb dX6_howManyLess_20 rfl (lv_at hl 3 rfl) ?_
          obtain ⟨q4, hq4, hf⟩ := obE hf
          refine ct_cVi (rest := []) (tX4_keyOf hD hi hq4) hx hb hml hown ht hX hP hS wX4_keyOf kML_RX6_9 rfl rfl ⟨Nat.le_of_ble_eq_true rfl, Nat.le_of_ble_eq_true rfl⟩ (va_recv hX.1 hP rfl (ct_nodes hi)) rfl hl.1 rfl (Nat.le_of_ble_eq_true rfl) dX6_howManyLess_21 (fun H locs hP hS => ?_)
          refine lv_iload_n hx hb dX6_howManyLess_24 rfl (lv_at hl 1 rfl) ?_
          refine lv_icmp_ge (tgt := 31) hx hb dX6_howManyLess_25 (by decide) (fun hc5 => ?_) (fun hc5 => ?_)
          · rw [if_pos hc5] at hf
            refine lv_iinc (v := x3 + (1 : Int32)) (lv' := [(3, .int (x3 + (1 : Int32))), (0, .ref (ad (10 * i + 1))), (1, .int x1), (2, .int x2)]) hx hb dX6_howManyLess_31 hl (k := 3) rfl rfl (by decide) rfl (fun ls hl => ?_)
            refine lv_goto (tgt := 4) hx hb dX6_howManyLess_34 (by decide) ?_
            exact ih4 _ _ x1 x2 (x3 + (1 : Int32)) ls hP hS (lv_sub hl [1, 2, 3, 0] rfl) hf
          · rw [if_neg hc5] at hf
            refine lv_iinc (v := x2 + (1 : Int32)) (lv' := [(2, .int (x2 + (1 : Int32))), (0, .ref (ad (10 * i + 1))), (1, .int x1), (3, .int x3)]) hx hb dX6_howManyLess_28 hl (k := 2) rfl rfl (by decide) rfl (fun ls hl => ?_)
            refine lv_iinc (v := x3 + (1 : Int32)) (lv' := [(3, .int (x3 + (1 : Int32))), (2, .int (x2 + (1 : Int32))), (0, .ref (ad (10 * i + 1))), (1, .int x1)]) hx hb dX6_howManyLess_31 hl (k := 3) rfl rfl (by decide) rfl (fun ls hl => ?_)
            refine lv_goto (tgt := 4) hx hb dX6_howManyLess_34 (by decide) ?_
            exact ih4 _ _ x1 (x2 + (1 : Int32)) (x3 + (1 : Int32)) ls hP hS (lv_sub hl [2, 3, 1, 0] rfl) hf
  unfold fX6_howManyLess at hf
  refine lv_iconst (v := (0 : Int32)) hx hb dX6_howManyLess_0 (by decide) ?_
  refine lv_istore_n (lv' := [(2, .int ((0 : Int32))), (0, .ref (ad (10 * i + 1))), (1, .int x1)]) hx hb dX6_howManyLess_1 rfl hl (by decide) rfl (fun ls hl => ?_)
  refine lv_iconst (v := (0 : Int32)) hx hb dX6_howManyLess_2 (by decide) ?_
  refine lv_istore_n (lv' := [(3, .int ((0 : Int32))), (2, .int ((0 : Int32))), (0, .ref (ad (10 * i + 1))), (1, .int x1)]) hx hb dX6_howManyLess_3 rfl hl (by decide) rfl (fun ls hl => ?_)
  exact blk4 F _ _ x1 (0 : Int32) (0 : Int32) ls hP hS (lv_sub hl [2, 3, 1, 0] rfl) hf
def fX6_greatestLess_49 (F : Nat) (τ : Tau) (k10 : Int32 → Int32 → Int32 → Int32 → Option (Int32)) (x1 : Int32) (x2 : Int32) (x3 : Int32) (x4 : Int32) (x5 : Int32) : Option (Int32) := if x5 = 0 then ((fX4_childOf F τ x3 (1 : Int32)).bind fun q9 => (k10 x1 x2 q9 (x4 + (1 : Int32)))) else ((fX4_childOf F τ x3 (0 : Int32)).bind fun q8 => (k10 x1 x2 q8 (x4 + (1 : Int32))))
def fX6_greatestLess_36 (F : Nat) (τ : Tau) (k10 : Int32 → Int32 → Int32 → Int32 → Option (Int32)) (x1 : Int32) (x2 : Int32) (x3 : Int32) (x4 : Int32) (y0 : Int32) : Option (Int32) := if y0 = 0 then (fX6_greatestLess_49 F τ k10 x1 x2 x3 x4 y0) else ((fX4_keyOf F τ x3).bind fun q6 => (fX6_greatestLess_49 F τ k10 x1 q6 x3 x4 y0))
def fX6_greatestLess_10 (F : Nat) (τ : Tau) : Nat → Int32 → Int32 → Int32 → Int32 → Option (Int32)
  | 0, _, _, _, _ => none
  | n + 1, x1, x2, x3, x4 => if (60 : Int32) ≤ x4 then (some x2) else (if x3 = (-1 : Int32) then (some x2) else ((fX4_keyOf F τ x3).bind fun q3 => (if x1 ≤ q3 then (fX6_greatestLess_36 F τ (fun x1 x2 x3 x4 => fX6_greatestLess_10 F τ n x1 x2 x3 x4) x1 x2 x3 x4 (0 : Int32)) else (fX6_greatestLess_36 F τ (fun x1 x2 x3 x4 => fX6_greatestLess_10 F τ n x1 x2 x3 x4) x1 x2 x3 x4 (1 : Int32)))))
def fX6_greatestLess (F : Nat) (τ : Tau) (x1 : Int32) : Option (Int32) := fX6_greatestLess_10 F τ F x1 (-1 : Int32) (τ 6 0) (0 : Int32)
abbrev rX6_greatestLess : Room := { frames := 1, cells := 0, slots := 0, locals := 22 }
theorem wX6_greatestLess : kF yX6_greatestLess cX6_greatestLess 6 (some .int) 2 := ⟨kCO_yX6_greatestLess, kSM_yX6_greatestLess, kIN_RX6, by decide +kernel, by decide +kernel, by decide +kernel⟩
set_option maxHeartbeats 4000000 in
set_option maxRecDepth 100000 in
theorem tX6_greatestLess {l : Launch} {D : va_G} {cI cT cM : ClassId} {ad : Nat → Nat} (hD : gInj 167 ad) {F : Nat} {σ : Sig} {i : Nat} (hi : i < 16) {τ : Tau} {x1 : Int32} {res : Int32} (hf : fX6_greatestLess F τ x1 = some res) : CTi l yX6_greatestLess cX6_greatestLess 6 .int rX6_greatestLess D (cTy cI cT cM) (gA 167 ad) [.ref (ad (10 * i + 1)), .int x1] (cw cI cT cM ad (u3 σ i τ)) res (cw cI cT cM ad (u3 σ i τ)) := by
  refine ct_int (by decide) (Nat.le_of_ble_eq_true rfl) ?_
  intro p e s m args below meth c Q ls hx hb hml hown ht hX hret hP hS hl
  have hl : lv_has ls 6 [(0, .ref (ad (10 * i + 1))), (1, .int x1)] := hl
  have blk10 : ∀ (n10 : Nat) (H : Heap) (locs : List Loc) (x1 : Int32) (x2 : Int32) (x3 : Int32) (x4 : Int32) (ls : Array Slot), va_P D vwCl (cw cI cT cM ad (u3 σ i τ)) H → va_S (gA 167 ad) s.heap H locs → lv_has ls 6 [(0, .ref (ad (10 * i + 1))), (1, .int x1), (2, .int x2), (3, .int x3), (4, .int x4)] → fX6_greatestLess_10 F τ n10 x1 x2 x3 x4 = some res → W p l e rX6_greatestLess s m args below meth c H locs 0 0 Q (F0 m 10 ls []) := by
    intro n10
    induction n10 with
    | zero =>
      intro H locs x1 x2 x3 x4 ls hP hS hl hf
      rw [fX6_greatestLess_10] at hf
      cases hf
    | succ n10 ih10 =>
      skip
      have blk49 : ∀ (H : Heap) (locs : List Loc) (x1 : Int32) (x2 : Int32) (x3 : Int32) (x4 : Int32) (x5 : Int32) (ls : Array Slot), va_P D vwCl (cw cI cT cM ad (u3 σ i τ)) H → va_S (gA 167 ad) s.heap H locs → lv_has ls 6 [(0, .ref (ad (10 * i + 1))), (1, .int x1), (2, .int x2), (3, .int x3), (4, .int x4), (5, .int x5)] → fX6_greatestLess_49 F τ (fun x1 x2 x3 x4 => fX6_greatestLess_10 F τ n10 x1 x2 x3 x4) x1 x2 x3 x4 x5 = some res → W p l e rX6_greatestLess s m args below meth c H locs 0 0 Q (F0 m 49 ls []) := by
        intro H locs x1 x2 x3 x4 x5 ls hP hS hl hf
        unfold fX6_greatestLess_49 at hf
        refine lv_aload_n hx hb dX6_greatestLess_49 rfl (lv_at hl 0 rfl) ?_
        refine lv_iload_n hx hb dX6_greatestLess_50 rfl (lv_at hl 3 rfl) ?_
        refine lv_iload hx hb dX6_greatestLess_51 (lv_at hl 5 rfl) ?_
        refine lv_if_ne (tgt := 60) hx hb dX6_greatestLess_53 (by decide) (fun hc7 => ?_) (fun hc7 => ?_)
        · rw [if_neg hc7] at hf
          refine lv_iconst (v := (0 : Int32)) hx hb dX6_greatestLess_60 (by decide) ?_
          obtain ⟨q8, hq8, hf⟩ := obE hf
          refine ct_cVi (rest := []) (tX4_childOf hD hi hq8) hx hb hml hown ht hX hP hS wX4_childOf kML_RX6_32 rfl rfl ⟨Nat.le_of_ble_eq_true rfl, Nat.le_of_ble_eq_true rfl⟩ (va_recv hX.1 hP rfl (ct_nodes hi)) rfl hl.1 rfl (Nat.le_of_ble_eq_true rfl) dX6_greatestLess_61 (fun H locs hP hS => ?_)
          refine lv_istore_n (lv' := [(3, .int q8), (0, .ref (ad (10 * i + 1))), (1, .int x1), (2, .int x2), (4, .int x4), (5, .int x5)]) hx hb dX6_greatestLess_64 rfl hl (by decide) rfl (fun ls hl => ?_)
          refine lv_iinc (v := x4 + (1 : Int32)) (lv' := [(4, .int (x4 + (1 : Int32))), (3, .int q8), (0, .ref (ad (10 * i + 1))), (1, .int x1), (2, .int x2), (5, .int x5)]) hx hb dX6_greatestLess_65 hl (k := 4) rfl rfl (by decide) rfl (fun ls hl => ?_)
          refine lv_goto (tgt := 10) hx hb dX6_greatestLess_68 (by decide) ?_
          exact ih10 _ _ x1 x2 q8 (x4 + (1 : Int32)) ls hP hS (lv_sub hl [2, 3, 4, 1, 0] rfl) hf
        · rw [if_pos hc7] at hf
          refine lv_iconst (v := (1 : Int32)) hx hb dX6_greatestLess_56 (by decide) ?_
          refine lv_goto (tgt := 61) hx hb dX6_greatestLess_57 (by decide) ?_
          obtain ⟨q9, hq9, hf⟩ := obE hf
          refine ct_cVi (rest := []) (tX4_childOf hD hi hq9) hx hb hml hown ht hX hP hS wX4_childOf kML_RX6_32 rfl rfl ⟨Nat.le_of_ble_eq_true rfl, Nat.le_of_ble_eq_true rfl⟩ (va_recv hX.1 hP rfl (ct_nodes hi)) rfl hl.1 rfl (Nat.le_of_ble_eq_true rfl) dX6_greatestLess_61 (fun H locs hP hS => ?_)
          refine lv_istore_n (lv' := [(3, .int q9), (0, .ref (ad (10 * i + 1))), (1, .int x1), (2, .int x2), (4, .int x4), (5, .int x5)]) hx hb dX6_greatestLess_64 rfl hl (by decide) rfl (fun ls hl => ?_)
          refine lv_iinc (v := x4 + (1 : Int32)) (lv' := [(4, .int (x4 + (1 : Int32))), (3, .int q9), (0, .ref (ad (10 * i + 1))), (1, .int x1), (2, .int x2), (5, .int x5)]) hx hb dX6_greatestLess_65 hl (k := 4) rfl rfl (by decide) rfl (fun ls hl => ?_)
          refine lv_goto (tgt := 10) hx hb dX6_greatestLess_68 (by decide) ?_
          exact ih10 _ _ x1 x2 q9 (x4 + (1 : Int32)) ls hP hS (lv_sub hl [2, 3, 4, 1, 0] rfl) hf
      have blk36 : ∀ (H : Heap) (locs : List Loc) (x1 : Int32) (x2 : Int32) (x3 : Int32) (x4 : Int32) (y0 : Int32) (ls : Array Slot), va_P D vwCl (cw cI cT cM ad (u3 σ i τ)) H → va_S (gA 167 ad) s.heap H locs → lv_has ls 6 [(0, .ref (ad (10 * i + 1))), (1, .int x1), (2, .int x2), (3, .int x3), (4, .int x4)] → fX6_greatestLess_36 F τ (fun x1 x2 x3 x4 => fX6_greatestLess_10 F τ n10 x1 x2 x3 x4) x1 x2 x3 x4 y0 = some res → W p l e rX6_greatestLess s m args below meth c H locs 0 0 Q (F0 m 36 ls [.int y0]) := by
        intro H locs x1 x2 x3 x4 y0 ls hP hS hl hf
        unfold fX6_greatestLess_36 at hf
        refine lv_istore (lv' := [(5, .int y0), (0, .ref (ad (10 * i + 1))), (1, .int x1), (2, .int x2), (3, .int x3), (4, .int x4)]) hx hb dX6_greatestLess_36 hl (by decide) rfl (fun ls hl => ?_)
        refine lv_iload hx hb dX6_greatestLess_38 (lv_at hl 0 rfl) ?_
        refine lv_if_eq (tgt := 49) hx hb dX6_greatestLess_40 (by decide) (fun hc5 => ?_) (fun hc5 => ?_)
        · rw [if_pos hc5] at hf
          exact blk49 _ _ x1 x2 x3 x4 y0 ls hP hS (lv_sub hl [1, 2, 3, 4, 5, 0] rfl) hf
        · rw [if_neg hc5] at hf
          refine lv_aload_n hx hb dX6_greatestLess_43 rfl (lv_at hl 1 rfl) ?_
          refine lv_iload_n hx hb dX6_greatestLess_44 rfl (lv_at hl 4 rfl) ?_
          obtain ⟨q6, hq6, hf⟩ := obE hf
          refine ct_cVi (rest := []) (tX4_keyOf hD hi hq6) hx hb hml hown ht hX hP hS wX4_keyOf kML_RX6_9 rfl rfl ⟨Nat.le_of_ble_eq_true rfl, Nat.le_of_ble_eq_true rfl⟩ (va_recv hX.1 hP rfl (ct_nodes hi)) rfl hl.1 rfl (Nat.le_of_ble_eq_true rfl) dX6_greatestLess_45 (fun H locs hP hS => ?_)
          refine lv_istore_n (lv' := [(2, .int q6), (5, .int y0), (0, .ref (ad (10 * i + 1))), (1, .int x1), (3, .int x3), (4, .int x4)]) hx hb dX6_greatestLess_48 rfl hl (by decide) rfl (fun ls hl => ?_)
          exact blk49 _ _ x1 q6 x3 x4 y0 ls hP hS (lv_sub hl [2, 3, 0, 4, 5, 1] rfl) hf
      intro H locs x1 x2 x3 x4 ls hP hS hl hf
      rw [fX6_greatestLess_10] at hf
      refine lv_iload hx hb dX6_greatestLess_10 (lv_at hl 4 rfl) ?_
      refine lv_bipush (v := (60 : Int32)) hx hb dX6_greatestLess_12 (by decide) ?_
      refine lv_icmp_ge (tgt := 71) hx hb dX6_greatestLess_14 (by decide) (fun hc1 => ?_) (fun hc1 => ?_)
      · rw [if_pos hc1] at hf
        refine lv_iload_n hx hb dX6_greatestLess_71 rfl (lv_at hl 2 rfl) ?_
        have e0 := Option.some.inj hf
        subst e0
        exact hret _ _ _ _ hP hS dX6_greatestLess_72
      · rw [if_neg hc1] at hf
        refine lv_iload_n hx hb dX6_greatestLess_17 rfl (lv_at hl 3 rfl) ?_
        refine lv_iconst (v := (-1 : Int32)) hx hb dX6_greatestLess_18 (by decide) ?_
        refine lv_icmp_eq (tgt := 71) hx hb dX6_greatestLess_19 (by decide) (fun hc2 => ?_) (fun hc2 => ?_)
        · rw [if_pos hc2] at hf
          refine lv_iload_n hx hb dX6_greatestLess_71 rfl (lv_at hl 2 rfl) ?_
          have e0 := Option.some.inj hf
          subst e0
          exact hret _ _ _ _ hP hS dX6_greatestLess_72
        · rw [if_neg hc2] at hf
          refine lv_aload_n hx hb dX6_greatestLess_22 rfl (lv_at hl 0 rfl) ?_
          refine lv_iload_n hx hb dX6_greatestLess_23 rfl (lv_at hl 3 rfl) ?_
          obtain ⟨q3, hq3, hf⟩ := obE hf
          refine ct_cVi (rest := []) (tX4_keyOf hD hi hq3) hx hb hml hown ht hX hP hS wX4_keyOf kML_RX6_9 rfl rfl ⟨Nat.le_of_ble_eq_true rfl, Nat.le_of_ble_eq_true rfl⟩ (va_recv hX.1 hP rfl (ct_nodes hi)) rfl hl.1 rfl (Nat.le_of_ble_eq_true rfl) dX6_greatestLess_24 (fun H locs hP hS => ?_)
          refine lv_iload_n hx hb dX6_greatestLess_27 rfl (lv_at hl 1 rfl) ?_
          refine lv_icmp_ge (tgt := 35) hx hb dX6_greatestLess_28 (by decide) (fun hc4 => ?_) (fun hc4 => ?_)
          · rw [if_pos hc4] at hf
            refine lv_iconst (v := (0 : Int32)) hx hb dX6_greatestLess_35 (by decide) ?_
            exact blk36 _ _ x1 x2 x3 x4 (0 : Int32) ls hP hS (lv_sub hl [0, 1, 2, 3, 4] rfl) hf
          · rw [if_neg hc4] at hf
            refine lv_iconst (v := (1 : Int32)) hx hb dX6_greatestLess_31 (by decide) ?_
            refine lv_goto (tgt := 36) hx hb dX6_greatestLess_32 (by decide) ?_
            exact blk36 _ _ x1 x2 x3 x4 (1 : Int32) ls hP hS (lv_sub hl [0, 1, 2, 3, 4] rfl) hf
  unfold fX6_greatestLess at hf
  refine lv_iconst (v := (-1 : Int32)) hx hb dX6_greatestLess_0 (by decide) ?_
  refine lv_istore_n (lv' := [(2, .int ((-1 : Int32))), (0, .ref (ad (10 * i + 1))), (1, .int x1)]) hx hb dX6_greatestLess_1 rfl hl (by decide) rfl (fun ls hl => ?_)
  refine lv_aload_n hx hb dX6_greatestLess_2 rfl (lv_at hl 1 rfl) ?_
  refine va_get (ci := 3) (v := .int (τ 6 0)) hx hb ht i_X4 hown hX.1 hP (10 * i + 1) (ct_nodes hi) rfl 6 (by decide) (ht _ kFL_RX6_28) (fun _ h9 => h9) rfl dX6_greatestLess_3 ?_
  refine lv_istore_n (lv' := [(3, .int (τ 6 0)), (2, .int ((-1 : Int32))), (0, .ref (ad (10 * i + 1))), (1, .int x1)]) hx hb dX6_greatestLess_6 rfl hl (by decide) rfl (fun ls hl => ?_)
  refine lv_iconst (v := (0 : Int32)) hx hb dX6_greatestLess_7 (by decide) ?_
  refine lv_istore (lv' := [(4, .int ((0 : Int32))), (3, .int (τ 6 0)), (2, .int ((-1 : Int32))), (0, .ref (ad (10 * i + 1))), (1, .int x1)]) hx hb dX6_greatestLess_8 hl (by decide) rfl (fun ls hl => ?_)
  exact blk10 F _ _ x1 (-1 : Int32) (τ 6 0) (0 : Int32) ls hP hS (lv_sub hl [3, 4, 2, 1, 0] rfl) hf
def fX6_leastGreater_49 (F : Nat) (τ : Tau) (k10 : Int32 → Int32 → Int32 → Int32 → Option (Int32)) (x1 : Int32) (x2 : Int32) (x3 : Int32) (x4 : Int32) (x5 : Int32) : Option (Int32) := (fX4_childOf F τ x3 x5).bind fun q7 => (k10 x1 x2 q7 (x4 + (1 : Int32)))
def fX6_leastGreater_36 (F : Nat) (τ : Tau) (k10 : Int32 → Int32 → Int32 → Int32 → Option (Int32)) (x1 : Int32) (x2 : Int32) (x3 : Int32) (x4 : Int32) (y0 : Int32) : Option (Int32) := if y0 = 0 then (fX6_leastGreater_49 F τ k10 x1 x2 x3 x4 y0) else ((fX4_keyOf F τ x3).bind fun q6 => (fX6_leastGreater_49 F τ k10 x1 q6 x3 x4 y0))
def fX6_leastGreater_10 (F : Nat) (τ : Tau) : Nat → Int32 → Int32 → Int32 → Int32 → Option (Int32)
  | 0, _, _, _, _ => none
  | n + 1, x1, x2, x3, x4 => if (60 : Int32) ≤ x4 then (some x2) else (if x3 = (-1 : Int32) then (some x2) else ((fX4_keyOf F τ x3).bind fun q3 => (if q3 ≤ x1 then (fX6_leastGreater_36 F τ (fun x1 x2 x3 x4 => fX6_leastGreater_10 F τ n x1 x2 x3 x4) x1 x2 x3 x4 (0 : Int32)) else (fX6_leastGreater_36 F τ (fun x1 x2 x3 x4 => fX6_leastGreater_10 F τ n x1 x2 x3 x4) x1 x2 x3 x4 (1 : Int32)))))
def fX6_leastGreater (F : Nat) (τ : Tau) (x1 : Int32) : Option (Int32) := fX6_leastGreater_10 F τ F x1 (-1 : Int32) (τ 6 0) (0 : Int32)
abbrev rX6_leastGreater : Room := { frames := 1, cells := 0, slots := 0, locals := 22 }
theorem wX6_leastGreater : kF yX6_leastGreater cX6_leastGreater 6 (some .int) 2 := ⟨kCO_yX6_leastGreater, kSM_yX6_leastGreater, kIN_RX6, by decide +kernel, by decide +kernel, by decide +kernel⟩
set_option maxHeartbeats 4000000 in
set_option maxRecDepth 100000 in
theorem tX6_leastGreater {l : Launch} {D : va_G} {cI cT cM : ClassId} {ad : Nat → Nat} (hD : gInj 167 ad) {F : Nat} {σ : Sig} {i : Nat} (hi : i < 16) {τ : Tau} {x1 : Int32} {res : Int32} (hf : fX6_leastGreater F τ x1 = some res) : CTi l yX6_leastGreater cX6_leastGreater 6 .int rX6_leastGreater D (cTy cI cT cM) (gA 167 ad) [.ref (ad (10 * i + 1)), .int x1] (cw cI cT cM ad (u3 σ i τ)) res (cw cI cT cM ad (u3 σ i τ)) := by
  refine ct_int (by decide) (Nat.le_of_ble_eq_true rfl) ?_
  intro p e s m args below meth c Q ls hx hb hml hown ht hX hret hP hS hl
  have hl : lv_has ls 6 [(0, .ref (ad (10 * i + 1))), (1, .int x1)] := hl
  have blk10 : ∀ (n10 : Nat) (H : Heap) (locs : List Loc) (x1 : Int32) (x2 : Int32) (x3 : Int32) (x4 : Int32) (ls : Array Slot), va_P D vwCl (cw cI cT cM ad (u3 σ i τ)) H → va_S (gA 167 ad) s.heap H locs → lv_has ls 6 [(0, .ref (ad (10 * i + 1))), (1, .int x1), (2, .int x2), (3, .int x3), (4, .int x4)] → fX6_leastGreater_10 F τ n10 x1 x2 x3 x4 = some res → W p l e rX6_leastGreater s m args below meth c H locs 0 0 Q (F0 m 10 ls []) := by
    intro n10
    induction n10 with
    | zero =>
      intro H locs x1 x2 x3 x4 ls hP hS hl hf
      rw [fX6_leastGreater_10] at hf
      cases hf
    | succ n10 ih10 =>
      skip
      have blk49 : ∀ (H : Heap) (locs : List Loc) (x1 : Int32) (x2 : Int32) (x3 : Int32) (x4 : Int32) (x5 : Int32) (ls : Array Slot), va_P D vwCl (cw cI cT cM ad (u3 σ i τ)) H → va_S (gA 167 ad) s.heap H locs → lv_has ls 6 [(0, .ref (ad (10 * i + 1))), (1, .int x1), (2, .int x2), (3, .int x3), (4, .int x4), (5, .int x5)] → fX6_leastGreater_49 F τ (fun x1 x2 x3 x4 => fX6_leastGreater_10 F τ n10 x1 x2 x3 x4) x1 x2 x3 x4 x5 = some res → W p l e rX6_leastGreater s m args below meth c H locs 0 0 Q (F0 m 49 ls []) := by
        intro H locs x1 x2 x3 x4 x5 ls hP hS hl hf
        unfold fX6_leastGreater_49 at hf
        refine lv_aload_n hx hb dX6_leastGreater_49 rfl (lv_at hl 0 rfl) ?_
        refine lv_iload_n hx hb dX6_leastGreater_50 rfl (lv_at hl 3 rfl) ?_
        refine lv_iload hx hb dX6_leastGreater_51 (lv_at hl 5 rfl) ?_
        obtain ⟨q7, hq7, hf⟩ := obE hf
        refine ct_cVi (rest := []) (tX4_childOf hD hi hq7) hx hb hml hown ht hX hP hS wX4_childOf kML_RX6_32 rfl rfl ⟨Nat.le_of_ble_eq_true rfl, Nat.le_of_ble_eq_true rfl⟩ (va_recv hX.1 hP rfl (ct_nodes hi)) rfl hl.1 rfl (Nat.le_of_ble_eq_true rfl) dX6_leastGreater_53 (fun H locs hP hS => ?_)
        refine lv_istore_n (lv' := [(3, .int q7), (0, .ref (ad (10 * i + 1))), (1, .int x1), (2, .int x2), (4, .int x4), (5, .int x5)]) hx hb dX6_leastGreater_56 rfl hl (by decide) rfl (fun ls hl => ?_)
        refine lv_iinc (v := x4 + (1 : Int32)) (lv' := [(4, .int (x4 + (1 : Int32))), (3, .int q7), (0, .ref (ad (10 * i + 1))), (1, .int x1), (2, .int x2), (5, .int x5)]) hx hb dX6_leastGreater_57 hl (k := 4) rfl rfl (by decide) rfl (fun ls hl => ?_)
        refine lv_goto (tgt := 10) hx hb dX6_leastGreater_60 (by decide) ?_
        exact ih10 _ _ x1 x2 q7 (x4 + (1 : Int32)) ls hP hS (lv_sub hl [2, 3, 4, 1, 0] rfl) hf
      have blk36 : ∀ (H : Heap) (locs : List Loc) (x1 : Int32) (x2 : Int32) (x3 : Int32) (x4 : Int32) (y0 : Int32) (ls : Array Slot), va_P D vwCl (cw cI cT cM ad (u3 σ i τ)) H → va_S (gA 167 ad) s.heap H locs → lv_has ls 6 [(0, .ref (ad (10 * i + 1))), (1, .int x1), (2, .int x2), (3, .int x3), (4, .int x4)] → fX6_leastGreater_36 F τ (fun x1 x2 x3 x4 => fX6_leastGreater_10 F τ n10 x1 x2 x3 x4) x1 x2 x3 x4 y0 = some res → W p l e rX6_leastGreater s m args below meth c H locs 0 0 Q (F0 m 36 ls [.int y0]) := by
        intro H locs x1 x2 x3 x4 y0 ls hP hS hl hf
        unfold fX6_leastGreater_36 at hf
        refine lv_istore (lv' := [(5, .int y0), (0, .ref (ad (10 * i + 1))), (1, .int x1), (2, .int x2), (3, .int x3), (4, .int x4)]) hx hb dX6_leastGreater_36 hl (by decide) rfl (fun ls hl => ?_)
        refine lv_iload hx hb dX6_leastGreater_38 (lv_at hl 0 rfl) ?_
        refine lv_if_eq (tgt := 49) hx hb dX6_leastGreater_40 (by decide) (fun hc5 => ?_) (fun hc5 => ?_)
        · rw [if_pos hc5] at hf
          exact blk49 _ _ x1 x2 x3 x4 y0 ls hP hS (lv_sub hl [1, 2, 3, 4, 5, 0] rfl) hf
        · rw [if_neg hc5] at hf
          refine lv_aload_n hx hb dX6_leastGreater_43 rfl (lv_at hl 1 rfl) ?_
          refine lv_iload_n hx hb dX6_leastGreater_44 rfl (lv_at hl 4 rfl) ?_
          obtain ⟨q6, hq6, hf⟩ := obE hf
          refine ct_cVi (rest := []) (tX4_keyOf hD hi hq6) hx hb hml hown ht hX hP hS wX4_keyOf kML_RX6_9 rfl rfl ⟨Nat.le_of_ble_eq_true rfl, Nat.le_of_ble_eq_true rfl⟩ (va_recv hX.1 hP rfl (ct_nodes hi)) rfl hl.1 rfl (Nat.le_of_ble_eq_true rfl) dX6_leastGreater_45 (fun H locs hP hS => ?_)
          refine lv_istore_n (lv' := [(2, .int q6), (5, .int y0), (0, .ref (ad (10 * i + 1))), (1, .int x1), (3, .int x3), (4, .int x4)]) hx hb dX6_leastGreater_48 rfl hl (by decide) rfl (fun ls hl => ?_)
          exact blk49 _ _ x1 q6 x3 x4 y0 ls hP hS (lv_sub hl [2, 3, 0, 4, 5, 1] rfl) hf
      intro H locs x1 x2 x3 x4 ls hP hS hl hf
      rw [fX6_leastGreater_10] at hf
      refine lv_iload hx hb dX6_leastGreater_10 (lv_at hl 4 rfl) ?_
      refine lv_bipush (v := (60 : Int32)) hx hb dX6_leastGreater_12 (by decide) ?_
      refine lv_icmp_ge (tgt := 63) hx hb dX6_leastGreater_14 (by decide) (fun hc1 => ?_) (fun hc1 => ?_)
      · rw [if_pos hc1] at hf
        refine lv_iload_n hx hb dX6_leastGreater_63 rfl (lv_at hl 2 rfl) ?_
        have e0 := Option.some.inj hf
        subst e0
        exact hret _ _ _ _ hP hS dX6_leastGreater_64
      · rw [if_neg hc1] at hf
        refine lv_iload_n hx hb dX6_leastGreater_17 rfl (lv_at hl 3 rfl) ?_
        refine lv_iconst (v := (-1 : Int32)) hx hb dX6_leastGreater_18 (by decide) ?_
        refine lv_icmp_eq (tgt := 63) hx hb dX6_leastGreater_19 (by decide) (fun hc2 => ?_) (fun hc2 => ?_)
        · rw [if_pos hc2] at hf
          refine lv_iload_n hx hb dX6_leastGreater_63 rfl (lv_at hl 2 rfl) ?_
          have e0 := Option.some.inj hf
          subst e0
          exact hret _ _ _ _ hP hS dX6_leastGreater_64
        · rw [if_neg hc2] at hf
          refine lv_aload_n hx hb dX6_leastGreater_22 rfl (lv_at hl 0 rfl) ?_
          refine lv_iload_n hx hb dX6_leastGreater_23 rfl (lv_at hl 3 rfl) ?_
          obtain ⟨q3, hq3, hf⟩ := obE hf
          refine ct_cVi (rest := []) (tX4_keyOf hD hi hq3) hx hb hml hown ht hX hP hS wX4_keyOf kML_RX6_9 rfl rfl ⟨Nat.le_of_ble_eq_true rfl, Nat.le_of_ble_eq_true rfl⟩ (va_recv hX.1 hP rfl (ct_nodes hi)) rfl hl.1 rfl (Nat.le_of_ble_eq_true rfl) dX6_leastGreater_24 (fun H locs hP hS => ?_)
          refine lv_iload_n hx hb dX6_leastGreater_27 rfl (lv_at hl 1 rfl) ?_
          refine lv_icmp_le (tgt := 35) hx hb dX6_leastGreater_28 (by decide) (fun hc4 => ?_) (fun hc4 => ?_)
          · rw [if_pos hc4] at hf
            refine lv_iconst (v := (0 : Int32)) hx hb dX6_leastGreater_35 (by decide) ?_
            exact blk36 _ _ x1 x2 x3 x4 (0 : Int32) ls hP hS (lv_sub hl [0, 1, 2, 3, 4] rfl) hf
          · rw [if_neg hc4] at hf
            refine lv_iconst (v := (1 : Int32)) hx hb dX6_leastGreater_31 (by decide) ?_
            refine lv_goto (tgt := 36) hx hb dX6_leastGreater_32 (by decide) ?_
            exact blk36 _ _ x1 x2 x3 x4 (1 : Int32) ls hP hS (lv_sub hl [0, 1, 2, 3, 4] rfl) hf
  unfold fX6_leastGreater at hf
  refine lv_iconst (v := (-1 : Int32)) hx hb dX6_leastGreater_0 (by decide) ?_
  refine lv_istore_n (lv' := [(2, .int ((-1 : Int32))), (0, .ref (ad (10 * i + 1))), (1, .int x1)]) hx hb dX6_leastGreater_1 rfl hl (by decide) rfl (fun ls hl => ?_)
  refine lv_aload_n hx hb dX6_leastGreater_2 rfl (lv_at hl 1 rfl) ?_
  refine va_get (ci := 3) (v := .int (τ 6 0)) hx hb ht i_X4 hown hX.1 hP (10 * i + 1) (ct_nodes hi) rfl 6 (by decide) (ht _ kFL_RX6_28) (fun _ h9 => h9) rfl dX6_leastGreater_3 ?_
  refine lv_istore_n (lv' := [(3, .int (τ 6 0)), (2, .int ((-1 : Int32))), (0, .ref (ad (10 * i + 1))), (1, .int x1)]) hx hb dX6_leastGreater_6 rfl hl (by decide) rfl (fun ls hl => ?_)
  refine lv_iconst (v := (0 : Int32)) hx hb dX6_leastGreater_7 (by decide) ?_
  refine lv_istore (lv' := [(4, .int ((0 : Int32))), (3, .int (τ 6 0)), (2, .int ((-1 : Int32))), (0, .ref (ad (10 * i + 1))), (1, .int x1)]) hx hb dX6_leastGreater_8 hl (by decide) rfl (fun ls hl => ?_)
  exact blk10 F _ _ x1 (-1 : Int32) (τ 6 0) (0 : Int32) ls hP hS (lv_sub hl [3, 4, 2, 1, 0] rfl) hf
def fX6_howManyBelow (F : Nat) (τ : Tau) (x1 : Int32) : Option (Int32) := (fX4_leastBelow F τ x1).bind fun q1 => ((fX4_keyOf F τ q1).bind fun q2 => ((fX4_greatestBelow F τ x1).bind fun q3 => ((fX4_keyOf F τ q3).bind fun q4 => ((fX6_howManyFrom F τ q2 q4).bind fun q5 => (some q5)))))
abbrev rX6_howManyBelow : Room := { frames := 3, cells := 0, slots := 0, locals := 69 }
theorem wX6_howManyBelow : kF yX6_howManyBelow cX6_howManyBelow 4 (some .int) 2 := ⟨kCO_yX6_howManyBelow, kSM_yX6_howManyBelow, kIN_RX6, by decide +kernel, by decide +kernel, by decide +kernel⟩
set_option maxHeartbeats 4000000 in
set_option maxRecDepth 100000 in
theorem tX6_howManyBelow {l : Launch} {D : va_G} {cI cT cM : ClassId} {ad : Nat → Nat} (hD : gInj 167 ad) {F : Nat} {σ : Sig} {i : Nat} (hi : i < 16) {τ : Tau} {x1 : Int32} {res : Int32} (hf : fX6_howManyBelow F τ x1 = some res) : CTi l yX6_howManyBelow cX6_howManyBelow 4 .int rX6_howManyBelow D (cTy cI cT cM) (gA 167 ad) [.ref (ad (10 * i + 1)), .int x1] (cw cI cT cM ad (u3 σ i τ)) res (cw cI cT cM ad (u3 σ i τ)) := by
  refine ct_int (by decide) (Nat.le_of_ble_eq_true rfl) ?_
  intro p e s m args below meth c Q ls hx hb hml hown ht hX hret hP hS hl
  have hl : lv_has ls 4 [(0, .ref (ad (10 * i + 1))), (1, .int x1)] := hl
  unfold fX6_howManyBelow at hf
  refine lv_aload_n hx hb dX6_howManyBelow_0 rfl (lv_at hl 0 rfl) ?_
  refine lv_aload_n hx hb dX6_howManyBelow_1 rfl (lv_at hl 0 rfl) ?_
  refine lv_iload_n hx hb dX6_howManyBelow_2 rfl (lv_at hl 1 rfl) ?_
  obtain ⟨q1, hq1, hf⟩ := obE hf
  refine ct_cVi (rest := [.ref (ad (10 * i + 1))]) (tX4_leastBelow hD hi hq1) hx hb hml hown ht hX hP hS wX4_leastBelow kML_RX6_36 rfl rfl ⟨Nat.le_of_ble_eq_true rfl, Nat.le_of_ble_eq_true rfl⟩ (va_recv hX.1 hP rfl (ct_nodes hi)) rfl hl.1 rfl (Nat.le_of_ble_eq_true rfl) dX6_howManyBelow_3 (fun H locs hP hS => ?_)
  obtain ⟨q2, hq2, hf⟩ := obE hf
  refine ct_cVi (rest := []) (tX4_keyOf hD hi hq2) hx hb hml hown ht hX hP hS wX4_keyOf kML_RX6_9 rfl rfl ⟨Nat.le_of_ble_eq_true rfl, Nat.le_of_ble_eq_true rfl⟩ (va_recv hX.1 hP rfl (ct_nodes hi)) rfl hl.1 rfl (Nat.le_of_ble_eq_true rfl) dX6_howManyBelow_6 (fun H locs hP hS => ?_)
  refine lv_istore_n (lv' := [(2, .int q2), (0, .ref (ad (10 * i + 1))), (1, .int x1)]) hx hb dX6_howManyBelow_9 rfl hl (by decide) rfl (fun ls hl => ?_)
  refine lv_aload_n hx hb dX6_howManyBelow_10 rfl (lv_at hl 1 rfl) ?_
  refine lv_aload_n hx hb dX6_howManyBelow_11 rfl (lv_at hl 1 rfl) ?_
  refine lv_iload_n hx hb dX6_howManyBelow_12 rfl (lv_at hl 2 rfl) ?_
  obtain ⟨q3, hq3, hf⟩ := obE hf
  refine ct_cVi (rest := [.ref (ad (10 * i + 1))]) (tX4_greatestBelow hD hi hq3) hx hb hml hown ht hX hP hS wX4_greatestBelow kML_RX6_39 rfl rfl ⟨Nat.le_of_ble_eq_true rfl, Nat.le_of_ble_eq_true rfl⟩ (va_recv hX.1 hP rfl (ct_nodes hi)) rfl hl.1 rfl (Nat.le_of_ble_eq_true rfl) dX6_howManyBelow_13 (fun H locs hP hS => ?_)
  obtain ⟨q4, hq4, hf⟩ := obE hf
  refine ct_cVi (rest := []) (tX4_keyOf hD hi hq4) hx hb hml hown ht hX hP hS wX4_keyOf kML_RX6_9 rfl rfl ⟨Nat.le_of_ble_eq_true rfl, Nat.le_of_ble_eq_true rfl⟩ (va_recv hX.1 hP rfl (ct_nodes hi)) rfl hl.1 rfl (Nat.le_of_ble_eq_true rfl) dX6_howManyBelow_16 (fun H locs hP hS => ?_)
  refine lv_istore_n (lv' := [(3, .int q4), (2, .int q2), (0, .ref (ad (10 * i + 1))), (1, .int x1)]) hx hb dX6_howManyBelow_19 rfl hl (by decide) rfl (fun ls hl => ?_)
  refine lv_aload_n hx hb dX6_howManyBelow_20 rfl (lv_at hl 2 rfl) ?_
  refine lv_iload_n hx hb dX6_howManyBelow_21 rfl (lv_at hl 1 rfl) ?_
  refine lv_iload_n hx hb dX6_howManyBelow_22 rfl (lv_at hl 0 rfl) ?_
  obtain ⟨q5, hq5, hf⟩ := obE hf
  refine ct_cSi (rest := []) (tX6_howManyFrom hD hi hq5) hx hb hml hown ht hX hP hS wX6_howManyFrom kML_RX6_42 rfl rfl ⟨Nat.le_of_ble_eq_true rfl, Nat.le_of_ble_eq_true rfl⟩ rfl hl.1 rfl (Nat.le_of_ble_eq_true rfl) dX6_howManyBelow_23 (fun H locs hP hS => ?_)
  have e0 := Option.some.inj hf
  subst e0
  exact hret _ _ _ _ hP hS dX6_howManyBelow_26
def fX6_depth_4 (F : Nat) (τ : Tau) : Nat → Int32 → Int32 → Option (Int32)
  | 0, _, _ => none
  | n + 1, x1, x2 => if (60 : Int32) ≤ x2 then (some x1) else ((fX4_keyOf F τ x2).bind fun q2 => (if q2 = (-1 : Int32) then (fX6_depth_4 F τ n x1 (x2 + (1 : Int32))) else ((fX4_howManyAbove F τ x2).bind fun q4 => (fX6_depth_4 F τ n (if x1 < (q4 + (1 : Int32)) then q4 + (1 : Int32) else x1) (x2 + (1 : Int32))))))
def fX6_depth (F : Nat) (τ : Tau) : Option (Int32) := fX6_depth_4 F τ F (0 : Int32) (0 : Int32)
abbrev rX6_depth : Room := { frames := 2, cells := 0, slots := 0, locals := 45 }
theorem wX6_depth : kF yX6_depth cX6_depth 3 (some .int) 1 := ⟨kCO_yX6_depth, kSM_yX6_depth, kIN_RX6, by decide +kernel, by decide +kernel, by decide +kernel⟩
set_option maxHeartbeats 4000000 in
set_option maxRecDepth 100000 in
theorem tX6_depth {l : Launch} {D : va_G} {cI cT cM : ClassId} {ad : Nat → Nat} (hD : gInj 167 ad) {F : Nat} {σ : Sig} {i : Nat} (hi : i < 16) {τ : Tau} {res : Int32} (hf : fX6_depth F τ = some res) : CTi l yX6_depth cX6_depth 3 .int rX6_depth D (cTy cI cT cM) (gA 167 ad) [.ref (ad (10 * i + 1))] (cw cI cT cM ad (u3 σ i τ)) res (cw cI cT cM ad (u3 σ i τ)) := by
  refine ct_int (by decide) (Nat.le_of_ble_eq_true rfl) ?_
  intro p e s m args below meth c Q ls hx hb hml hown ht hX hret hP hS hl
  have hl : lv_has ls 3 [(0, .ref (ad (10 * i + 1)))] := hl
  have blk4 : ∀ (n4 : Nat) (H : Heap) (locs : List Loc) (x1 : Int32) (x2 : Int32) (ls : Array Slot), va_P D vwCl (cw cI cT cM ad (u3 σ i τ)) H → va_S (gA 167 ad) s.heap H locs → lv_has ls 3 [(0, .ref (ad (10 * i + 1))), (1, .int x1), (2, .int x2)] → fX6_depth_4 F τ n4 x1 x2 = some res → W p l e rX6_depth s m args below meth c H locs 0 0 Q (F0 m 4 ls []) := by
    intro n4
    induction n4 with
    | zero =>
      intro H locs x1 x2 ls hP hS hl hf
      rw [fX6_depth_4] at hf
      cases hf
    | succ n4 ih4 =>
      skip
      intro H locs x1 x2 ls hP hS hl hf
      rw [fX6_depth_4] at hf
      refine lv_iload_n hx hb dX6_depth_4 rfl (lv_at hl 2 rfl) ?_
      refine lv_bipush (v := (60 : Int32)) hx hb dX6_depth_5 (by decide) ?_
      refine lv_icmp_ge (tgt := 37) hx hb dX6_depth_7 (by decide) (fun hc1 => ?_) (fun hc1 => ?_)
      · rw [if_pos hc1] at hf
        refine lv_iload_n hx hb dX6_depth_37 rfl (lv_at hl 1 rfl) ?_
        have e0 := Option.some.inj hf
        subst e0
        exact hret _ _ _ _ hP hS dX6_depth_38
      · rw [if_neg hc1] at hf
        refine lv_aload_n hx hb dX6_depth_10 rfl (lv_at hl 0 rfl) ?_
        refine lv_iload_n hx hb dX6_depth_11 rfl (lv_at hl 2 rfl) ?_
        obtain ⟨q2, hq2, hf⟩ := obE hf
        refine ct_cVi (rest := []) (tX4_keyOf hD hi hq2) hx hb hml hown ht hX hP hS wX4_keyOf kML_RX6_9 rfl rfl ⟨Nat.le_of_ble_eq_true rfl, Nat.le_of_ble_eq_true rfl⟩ (va_recv hX.1 hP rfl (ct_nodes hi)) rfl hl.1 rfl (Nat.le_of_ble_eq_true rfl) dX6_depth_12 (fun H locs hP hS => ?_)
        refine lv_iconst (v := (-1 : Int32)) hx hb dX6_depth_15 (by decide) ?_
        refine lv_icmp_eq (tgt := 31) hx hb dX6_depth_16 (by decide) (fun hc3 => ?_) (fun hc3 => ?_)
        · rw [if_pos hc3] at hf
          refine lv_iinc (v := x2 + (1 : Int32)) (lv' := [(2, .int (x2 + (1 : Int32))), (0, .ref (ad (10 * i + 1))), (1, .int x1)]) hx hb dX6_depth_31 hl (k := 2) rfl rfl (by decide) rfl (fun ls hl => ?_)
          refine lv_goto (tgt := 4) hx hb dX6_depth_34 (by decide) ?_
          exact ih4 _ _ x1 (x2 + (1 : Int32)) ls hP hS (lv_sub hl [1, 2, 0] rfl) hf
        · rw [if_neg hc3] at hf
          refine lv_iload_n hx hb dX6_depth_19 rfl (lv_at hl 1 rfl) ?_
          refine lv_aload_n hx hb dX6_depth_20 rfl (lv_at hl 0 rfl) ?_
          refine lv_iload_n hx hb dX6_depth_21 rfl (lv_at hl 2 rfl) ?_
          obtain ⟨q4, hq4, hf⟩ := obE hf
          refine ct_cVi (rest := [.int x1]) (tX4_howManyAbove hD hi hq4) hx hb hml hown ht hX hP hS wX4_howManyAbove kML_RX6_46 rfl rfl ⟨Nat.le_of_ble_eq_true rfl, Nat.le_of_ble_eq_true rfl⟩ (va_recv hX.1 hP rfl (ct_nodes hi)) rfl hl.1 rfl (Nat.le_of_ble_eq_true rfl) dX6_depth_22 (fun H locs hP hS => ?_)
          refine lv_iconst (v := (1 : Int32)) hx hb dX6_depth_25 (by decide) ?_
          refine lv_iadd hx hb dX6_depth_26 ?_
          refine va_mmax hx hb (hml.trans hl.1.symm) hown (ht _ kML_RX6_49) (ht _ kSM_yJ9_max_7cf53) (ht _ kIN_RJ9) (ht _ kCO_yJ9_max_7cf53) (Nat.le_of_ble_eq_true rfl) (Nat.le_of_ble_eq_true rfl) (Nat.zero_le _) (Nat.zero_le _) dX6_depth_27 ?_
          refine lv_istore_n (lv' := [(1, .int (if x1 < (q4 + (1 : Int32)) then q4 + (1 : Int32) else x1)), (0, .ref (ad (10 * i + 1))), (2, .int x2)]) hx hb dX6_depth_30 rfl hl (by decide) rfl (fun ls hl => ?_)
          refine lv_iinc (v := x2 + (1 : Int32)) (lv' := [(2, .int (x2 + (1 : Int32))), (1, .int (if x1 < (q4 + (1 : Int32)) then q4 + (1 : Int32) else x1)), (0, .ref (ad (10 * i + 1)))]) hx hb dX6_depth_31 hl (k := 2) rfl rfl (by decide) rfl (fun ls hl => ?_)
          refine lv_goto (tgt := 4) hx hb dX6_depth_34 (by decide) ?_
          exact ih4 _ _ (if x1 < (q4 + (1 : Int32)) then q4 + (1 : Int32) else x1) (x2 + (1 : Int32)) ls hP hS (lv_sub hl [2, 1, 0] rfl) hf
  unfold fX6_depth at hf
  refine lv_iconst (v := (0 : Int32)) hx hb dX6_depth_0 (by decide) ?_
  refine lv_istore_n (lv' := [(1, .int ((0 : Int32))), (0, .ref (ad (10 * i + 1)))]) hx hb dX6_depth_1 rfl hl (by decide) rfl (fun ls hl => ?_)
  refine lv_iconst (v := (0 : Int32)) hx hb dX6_depth_2 (by decide) ?_
  refine lv_istore_n (lv' := [(2, .int ((0 : Int32))), (1, .int ((0 : Int32))), (0, .ref (ad (10 * i + 1)))]) hx hb dX6_depth_3 rfl hl (by decide) rfl (fun ls hl => ?_)
  exact blk4 F _ _ (0 : Int32) (0 : Int32) ls hP hS (lv_sub hl [2, 1, 0] rfl) hf
def fX6_ranksTogether_4 (F : Nat) (τ : Tau) : Nat → Int32 → Int32 → Option (Int32)
  | 0, _, _ => none
  | n + 1, x1, x2 => if (60 : Int32) ≤ x2 then (some x1) else ((fX4_keyOf F τ x2).bind fun q2 => (if q2 = (-1 : Int32) then (fX6_ranksTogether_4 F τ n x1 (x2 + (1 : Int32))) else ((fX4_rankOf F τ x2).bind fun q4 => (fX6_ranksTogether_4 F τ n (x1 + q4) (x2 + (1 : Int32))))))
def fX6_ranksTogether (F : Nat) (τ : Tau) : Option (Int32) := fX6_ranksTogether_4 F τ F (0 : Int32) (0 : Int32)
abbrev rX6_ranksTogether : Room := { frames := 1, cells := 0, slots := 0, locals := 21 }
theorem wX6_ranksTogether : kF yX6_ranksTogether cX6_ranksTogether 3 (some .int) 1 := ⟨kCO_yX6_ranksTogether, kSM_yX6_ranksTogether, kIN_RX6, by decide +kernel, by decide +kernel, by decide +kernel⟩
set_option maxHeartbeats 4000000 in
set_option maxRecDepth 100000 in
theorem tX6_ranksTogether {l : Launch} {D : va_G} {cI cT cM : ClassId} {ad : Nat → Nat} (hD : gInj 167 ad) {F : Nat} {σ : Sig} {i : Nat} (hi : i < 16) {τ : Tau} {res : Int32} (hf : fX6_ranksTogether F τ = some res) : CTi l yX6_ranksTogether cX6_ranksTogether 3 .int rX6_ranksTogether D (cTy cI cT cM) (gA 167 ad) [.ref (ad (10 * i + 1))] (cw cI cT cM ad (u3 σ i τ)) res (cw cI cT cM ad (u3 σ i τ)) := by
  refine ct_int (by decide) (Nat.le_of_ble_eq_true rfl) ?_
  intro p e s m args below meth c Q ls hx hb hml hown ht hX hret hP hS hl
  have hl : lv_has ls 3 [(0, .ref (ad (10 * i + 1)))] := hl
  have blk4 : ∀ (n4 : Nat) (H : Heap) (locs : List Loc) (x1 : Int32) (x2 : Int32) (ls : Array Slot), va_P D vwCl (cw cI cT cM ad (u3 σ i τ)) H → va_S (gA 167 ad) s.heap H locs → lv_has ls 3 [(0, .ref (ad (10 * i + 1))), (1, .int x1), (2, .int x2)] → fX6_ranksTogether_4 F τ n4 x1 x2 = some res → W p l e rX6_ranksTogether s m args below meth c H locs 0 0 Q (F0 m 4 ls []) := by
    intro n4
    induction n4 with
    | zero =>
      intro H locs x1 x2 ls hP hS hl hf
      rw [fX6_ranksTogether_4] at hf
      cases hf
    | succ n4 ih4 =>
      skip
      intro H locs x1 x2 ls hP hS hl hf
      rw [fX6_ranksTogether_4] at hf
      refine lv_iload_n hx hb dX6_ranksTogether_4 rfl (lv_at hl 2 rfl) ?_
      refine lv_bipush (v := (60 : Int32)) hx hb dX6_ranksTogether_5 (by decide) ?_
      refine lv_icmp_ge (tgt := 33) hx hb dX6_ranksTogether_7 (by decide) (fun hc1 => ?_) (fun hc1 => ?_)
      · rw [if_pos hc1] at hf
        refine lv_iload_n hx hb dX6_ranksTogether_33 rfl (lv_at hl 1 rfl) ?_
        have e0 := Option.some.inj hf
        subst e0
        exact hret _ _ _ _ hP hS dX6_ranksTogether_34
      · rw [if_neg hc1] at hf
        refine lv_aload_n hx hb dX6_ranksTogether_10 rfl (lv_at hl 0 rfl) ?_
        refine lv_iload_n hx hb dX6_ranksTogether_11 rfl (lv_at hl 2 rfl) ?_
        obtain ⟨q2, hq2, hf⟩ := obE hf
        refine ct_cVi (rest := []) (tX4_keyOf hD hi hq2) hx hb hml hown ht hX hP hS wX4_keyOf kML_RX6_9 rfl rfl ⟨Nat.le_of_ble_eq_true rfl, Nat.le_of_ble_eq_true rfl⟩ (va_recv hX.1 hP rfl (ct_nodes hi)) rfl hl.1 rfl (Nat.le_of_ble_eq_true rfl) dX6_ranksTogether_12 (fun H locs hP hS => ?_)
        refine lv_iconst (v := (-1 : Int32)) hx hb dX6_ranksTogether_15 (by decide) ?_
        refine lv_icmp_eq (tgt := 27) hx hb dX6_ranksTogether_16 (by decide) (fun hc3 => ?_) (fun hc3 => ?_)
        · rw [if_pos hc3] at hf
          refine lv_iinc (v := x2 + (1 : Int32)) (lv' := [(2, .int (x2 + (1 : Int32))), (0, .ref (ad (10 * i + 1))), (1, .int x1)]) hx hb dX6_ranksTogether_27 hl (k := 2) rfl rfl (by decide) rfl (fun ls hl => ?_)
          refine lv_goto (tgt := 4) hx hb dX6_ranksTogether_30 (by decide) ?_
          exact ih4 _ _ x1 (x2 + (1 : Int32)) ls hP hS (lv_sub hl [1, 2, 0] rfl) hf
        · rw [if_neg hc3] at hf
          refine lv_iload_n hx hb dX6_ranksTogether_19 rfl (lv_at hl 1 rfl) ?_
          refine lv_aload_n hx hb dX6_ranksTogether_20 rfl (lv_at hl 0 rfl) ?_
          refine lv_iload_n hx hb dX6_ranksTogether_21 rfl (lv_at hl 2 rfl) ?_
          obtain ⟨q4, hq4, hf⟩ := obE hf
          refine ct_cVi (rest := [.int x1]) (tX4_rankOf hD hi hq4) hx hb hml hown ht hX hP hS wX4_rankOf kML_RX6_55 rfl rfl ⟨Nat.le_of_ble_eq_true rfl, Nat.le_of_ble_eq_true rfl⟩ (va_recv hX.1 hP rfl (ct_nodes hi)) rfl hl.1 rfl (Nat.le_of_ble_eq_true rfl) dX6_ranksTogether_22 (fun H locs hP hS => ?_)
          refine lv_iadd hx hb dX6_ranksTogether_25 ?_
          refine lv_istore_n (lv' := [(1, .int (x1 + q4)), (0, .ref (ad (10 * i + 1))), (2, .int x2)]) hx hb dX6_ranksTogether_26 rfl hl (by decide) rfl (fun ls hl => ?_)
          refine lv_iinc (v := x2 + (1 : Int32)) (lv' := [(2, .int (x2 + (1 : Int32))), (1, .int (x1 + q4)), (0, .ref (ad (10 * i + 1)))]) hx hb dX6_ranksTogether_27 hl (k := 2) rfl rfl (by decide) rfl (fun ls hl => ?_)
          refine lv_goto (tgt := 4) hx hb dX6_ranksTogether_30 (by decide) ?_
          exact ih4 _ _ (x1 + q4) (x2 + (1 : Int32)) ls hP hS (lv_sub hl [2, 1, 0] rfl) hf
  unfold fX6_ranksTogether at hf
  refine lv_iconst (v := (0 : Int32)) hx hb dX6_ranksTogether_0 (by decide) ?_
  refine lv_istore_n (lv' := [(1, .int ((0 : Int32))), (0, .ref (ad (10 * i + 1)))]) hx hb dX6_ranksTogether_1 rfl hl (by decide) rfl (fun ls hl => ?_)
  refine lv_iconst (v := (0 : Int32)) hx hb dX6_ranksTogether_2 (by decide) ?_
  refine lv_istore_n (lv' := [(2, .int ((0 : Int32))), (1, .int ((0 : Int32))), (0, .ref (ad (10 * i + 1)))]) hx hb dX6_ranksTogether_3 rfl hl (by decide) rfl (fun ls hl => ?_)
  exact blk4 F _ _ (0 : Int32) (0 : Int32) ls hP hS (lv_sub hl [2, 1, 0] rfl) hf
def fX6_longSteps_4 (F : Nat) (τ : Tau) : Nat → Int32 → Int32 → Option (Int32)
  | 0, _, _ => none
  | n + 1, x1, x2 => if (60 : Int32) ≤ x2 then (some x1) else ((fX4_keyOf F τ x2).bind fun q2 => (if q2 = (-1 : Int32) then (fX6_longSteps_4 F τ n x1 (x2 + (1 : Int32))) else (if x2 = (τ 6 0) then (fX6_longSteps_4 F τ n x1 (x2 + (1 : Int32))) else ((fX4_parentOf F τ x2).bind fun q5 => ((fX4_step F τ q5 x2).bind fun q6 => (if q6 = (2 : Int32) then (fX6_longSteps_4 F τ n (x1 + (1 : Int32)) (x2 + (1 : Int32))) else (fX6_longSteps_4 F τ n x1 (x2 + (1 : Int32)))))))))
def fX6_longSteps (F : Nat) (τ : Tau) : Option (Int32) := fX6_longSteps_4 F τ F (0 : Int32) (0 : Int32)
abbrev rX6_longSteps : Room := { frames := 2, cells := 0, slots := 0, locals := 43 }
theorem wX6_longSteps : kF yX6_longSteps cX6_longSteps 3 (some .int) 1 := ⟨kCO_yX6_longSteps, kSM_yX6_longSteps, kIN_RX6, by decide +kernel, by decide +kernel, by decide +kernel⟩
set_option maxHeartbeats 4000000 in
set_option maxRecDepth 100000 in
theorem tX6_longSteps {l : Launch} {D : va_G} {cI cT cM : ClassId} {ad : Nat → Nat} (hD : gInj 167 ad) {F : Nat} {σ : Sig} {i : Nat} (hi : i < 16) {τ : Tau} {res : Int32} (hf : fX6_longSteps F τ = some res) : CTi l yX6_longSteps cX6_longSteps 3 .int rX6_longSteps D (cTy cI cT cM) (gA 167 ad) [.ref (ad (10 * i + 1))] (cw cI cT cM ad (u3 σ i τ)) res (cw cI cT cM ad (u3 σ i τ)) := by
  refine ct_int (by decide) (Nat.le_of_ble_eq_true rfl) ?_
  intro p e s m args below meth c Q ls hx hb hml hown ht hX hret hP hS hl
  have hl : lv_has ls 3 [(0, .ref (ad (10 * i + 1)))] := hl
  have blk4 : ∀ (n4 : Nat) (H : Heap) (locs : List Loc) (x1 : Int32) (x2 : Int32) (ls : Array Slot), va_P D vwCl (cw cI cT cM ad (u3 σ i τ)) H → va_S (gA 167 ad) s.heap H locs → lv_has ls 3 [(0, .ref (ad (10 * i + 1))), (1, .int x1), (2, .int x2)] → fX6_longSteps_4 F τ n4 x1 x2 = some res → W p l e rX6_longSteps s m args below meth c H locs 0 0 Q (F0 m 4 ls []) := by
    intro n4
    induction n4 with
    | zero =>
      intro H locs x1 x2 ls hP hS hl hf
      rw [fX6_longSteps_4] at hf
      cases hf
    | succ n4 ih4 =>
      skip
      intro H locs x1 x2 ls hP hS hl hf
      rw [fX6_longSteps_4] at hf
      refine lv_iload_n hx hb dX6_longSteps_4 rfl (lv_at hl 2 rfl) ?_
      refine lv_bipush (v := (60 : Int32)) hx hb dX6_longSteps_5 (by decide) ?_
      refine lv_icmp_ge (tgt := 50) hx hb dX6_longSteps_7 (by decide) (fun hc1 => ?_) (fun hc1 => ?_)
      · rw [if_pos hc1] at hf
        refine lv_iload_n hx hb dX6_longSteps_50 rfl (lv_at hl 1 rfl) ?_
        have e0 := Option.some.inj hf
        subst e0
        exact hret _ _ _ _ hP hS dX6_longSteps_51
      · rw [if_neg hc1] at hf
        refine lv_aload_n hx hb dX6_longSteps_10 rfl (lv_at hl 0 rfl) ?_
        refine lv_iload_n hx hb dX6_longSteps_11 rfl (lv_at hl 2 rfl) ?_
        obtain ⟨q2, hq2, hf⟩ := obE hf
        refine ct_cVi (rest := []) (tX4_keyOf hD hi hq2) hx hb hml hown ht hX hP hS wX4_keyOf kML_RX6_9 rfl rfl ⟨Nat.le_of_ble_eq_true rfl, Nat.le_of_ble_eq_true rfl⟩ (va_recv hX.1 hP rfl (ct_nodes hi)) rfl hl.1 rfl (Nat.le_of_ble_eq_true rfl) dX6_longSteps_12 (fun H locs hP hS => ?_)
        refine lv_iconst (v := (-1 : Int32)) hx hb dX6_longSteps_15 (by decide) ?_
        refine lv_icmp_eq (tgt := 44) hx hb dX6_longSteps_16 (by decide) (fun hc3 => ?_) (fun hc3 => ?_)
        · rw [if_pos hc3] at hf
          refine lv_iinc (v := x2 + (1 : Int32)) (lv' := [(2, .int (x2 + (1 : Int32))), (0, .ref (ad (10 * i + 1))), (1, .int x1)]) hx hb dX6_longSteps_44 hl (k := 2) rfl rfl (by decide) rfl (fun ls hl => ?_)
          refine lv_goto (tgt := 4) hx hb dX6_longSteps_47 (by decide) ?_
          exact ih4 _ _ x1 (x2 + (1 : Int32)) ls hP hS (lv_sub hl [1, 2, 0] rfl) hf
        · rw [if_neg hc3] at hf
          refine lv_iload_n hx hb dX6_longSteps_19 rfl (lv_at hl 2 rfl) ?_
          refine lv_aload_n hx hb dX6_longSteps_20 rfl (lv_at hl 0 rfl) ?_
          refine va_get (ci := 3) (v := .int (τ 6 0)) hx hb ht i_X4 hown hX.1 hP (10 * i + 1) (ct_nodes hi) rfl 6 (by decide) (ht _ kFL_RX6_28) (fun _ h9 => h9) rfl dX6_longSteps_21 ?_
          refine lv_icmp_eq (tgt := 44) hx hb dX6_longSteps_24 (by decide) (fun hc4 => ?_) (fun hc4 => ?_)
          · rw [if_pos hc4] at hf
            refine lv_iinc (v := x2 + (1 : Int32)) (lv' := [(2, .int (x2 + (1 : Int32))), (0, .ref (ad (10 * i + 1))), (1, .int x1)]) hx hb dX6_longSteps_44 hl (k := 2) rfl rfl (by decide) rfl (fun ls hl => ?_)
            refine lv_goto (tgt := 4) hx hb dX6_longSteps_47 (by decide) ?_
            exact ih4 _ _ x1 (x2 + (1 : Int32)) ls hP hS (lv_sub hl [1, 2, 0] rfl) hf
          · rw [if_neg hc4] at hf
            refine lv_aload_n hx hb dX6_longSteps_27 rfl (lv_at hl 0 rfl) ?_
            refine lv_aload_n hx hb dX6_longSteps_28 rfl (lv_at hl 0 rfl) ?_
            refine lv_iload_n hx hb dX6_longSteps_29 rfl (lv_at hl 2 rfl) ?_
            obtain ⟨q5, hq5, hf⟩ := obE hf
            refine ct_cVi (rest := [.ref (ad (10 * i + 1))]) (tX4_parentOf hD hi hq5) hx hb hml hown ht hX hP hS wX4_parentOf kML_RX6_58 rfl rfl ⟨Nat.le_of_ble_eq_true rfl, Nat.le_of_ble_eq_true rfl⟩ (va_recv hX.1 hP rfl (ct_nodes hi)) rfl hl.1 rfl (Nat.le_of_ble_eq_true rfl) dX6_longSteps_30 (fun H locs hP hS => ?_)
            refine lv_iload_n hx hb dX6_longSteps_33 rfl (lv_at hl 2 rfl) ?_
            obtain ⟨q6, hq6, hf⟩ := obE hf
            refine ct_cVi (rest := []) (tX4_step hD hi hq6) hx hb hml hown ht hX hP hS wX4_step kML_RX6_61 rfl rfl ⟨Nat.le_of_ble_eq_true rfl, Nat.le_of_ble_eq_true rfl⟩ (va_recv hX.1 hP rfl (ct_nodes hi)) rfl hl.1 rfl (Nat.le_of_ble_eq_true rfl) dX6_longSteps_34 (fun H locs hP hS => ?_)
            refine lv_iconst (v := (2 : Int32)) hx hb dX6_longSteps_37 (by decide) ?_
            refine lv_icmp_ne (tgt := 44) hx hb dX6_longSteps_38 (by decide) (fun hc7 => ?_) (fun hc7 => ?_)
            · rw [if_neg hc7] at hf
              refine lv_iinc (v := x2 + (1 : Int32)) (lv' := [(2, .int (x2 + (1 : Int32))), (0, .ref (ad (10 * i + 1))), (1, .int x1)]) hx hb dX6_longSteps_44 hl (k := 2) rfl rfl (by decide) rfl (fun ls hl => ?_)
              refine lv_goto (tgt := 4) hx hb dX6_longSteps_47 (by decide) ?_
              exact ih4 _ _ x1 (x2 + (1 : Int32)) ls hP hS (lv_sub hl [1, 2, 0] rfl) hf
            · rw [if_pos hc7] at hf
              refine lv_iinc (v := x1 + (1 : Int32)) (lv' := [(1, .int (x1 + (1 : Int32))), (0, .ref (ad (10 * i + 1))), (2, .int x2)]) hx hb dX6_longSteps_41 hl (k := 1) rfl rfl (by decide) rfl (fun ls hl => ?_)
              refine lv_iinc (v := x2 + (1 : Int32)) (lv' := [(2, .int (x2 + (1 : Int32))), (1, .int (x1 + (1 : Int32))), (0, .ref (ad (10 * i + 1)))]) hx hb dX6_longSteps_44 hl (k := 2) rfl rfl (by decide) rfl (fun ls hl => ?_)
              refine lv_goto (tgt := 4) hx hb dX6_longSteps_47 (by decide) ?_
              exact ih4 _ _ (x1 + (1 : Int32)) (x2 + (1 : Int32)) ls hP hS (lv_sub hl [2, 1, 0] rfl) hf
  unfold fX6_longSteps at hf
  refine lv_iconst (v := (0 : Int32)) hx hb dX6_longSteps_0 (by decide) ?_
  refine lv_istore_n (lv' := [(1, .int ((0 : Int32))), (0, .ref (ad (10 * i + 1)))]) hx hb dX6_longSteps_1 rfl hl (by decide) rfl (fun ls hl => ?_)
  refine lv_iconst (v := (0 : Int32)) hx hb dX6_longSteps_2 (by decide) ?_
  refine lv_istore_n (lv' := [(2, .int ((0 : Int32))), (1, .int ((0 : Int32))), (0, .ref (ad (10 * i + 1)))]) hx hb dX6_longSteps_3 rfl hl (by decide) rfl (fun ls hl => ?_)
  exact blk4 F _ _ (0 : Int32) (0 : Int32) ls hP hS (lv_sub hl [2, 1, 0] rfl) hf
def fX6_isRight (F : Nat) (τ : Tau) (x1 : Int32) : Option (Int32) := (fX4_isLeaf F τ x1).bind fun q1 => (if q1 = 0 then ((fX4_leftOf F τ x1).bind fun q3 => ((fX4_step F τ x1 q3).bind fun q4 => ((fX4_rightOf F τ x1).bind fun q5 => ((fX4_step F τ x1 q5).bind fun q6 => ((fX8_isWithin F q4 (1 : Int32) (2 : Int32)).bind fun q7 => (if q7 = 0 then (some (0 : Int32)) else ((fX8_isWithin F q6 (1 : Int32) (2 : Int32)).bind fun q9 => (if q9 = 0 then (some (0 : Int32)) else (some (1 : Int32)))))))))) else ((fX4_rankOf F τ x1).bind fun q11 => (if q11 = 0 then (some (1 : Int32)) else (some (0 : Int32)))))
abbrev rX6_isRight : Room := { frames := 2, cells := 0, slots := 0, locals := 43 }
theorem wX6_isRight : kF yX6_isRight cX6_isRight 4 (some .boolean) 2 := ⟨kCO_yX6_isRight, kSM_yX6_isRight, kIN_RX6, by decide +kernel, by decide +kernel, by decide +kernel⟩
set_option maxHeartbeats 4000000 in
set_option maxRecDepth 100000 in
theorem tX6_isRight {l : Launch} {D : va_G} {cI cT cM : ClassId} {ad : Nat → Nat} (hD : gInj 167 ad) {F : Nat} {σ : Sig} {i : Nat} (hi : i < 16) {τ : Tau} {x1 : Int32} {res : Int32} (hf : fX6_isRight F τ x1 = some res) : CTi l yX6_isRight cX6_isRight 4 .boolean rX6_isRight D (cTy cI cT cM) (gA 167 ad) [.ref (ad (10 * i + 1)), .int x1] (cw cI cT cM ad (u3 σ i τ)) res (cw cI cT cM ad (u3 σ i τ)) := by
  refine ct_bool (by decide) (Nat.le_of_ble_eq_true rfl) ?_
  intro p e s m args below meth c Q ls hx hb hml hown ht hX hret hP hS hl
  have hl : lv_has ls 4 [(0, .ref (ad (10 * i + 1))), (1, .int x1)] := hl
  unfold fX6_isRight at hf
  refine lv_aload_n hx hb dX6_isRight_0 rfl (lv_at hl 0 rfl) ?_
  refine lv_iload_n hx hb dX6_isRight_1 rfl (lv_at hl 1 rfl) ?_
  obtain ⟨q1, hq1, hf⟩ := obE hf
  refine ct_cVi (rest := []) (tX4_isLeaf hD hi hq1) hx hb hml hown ht hX hP hS wX4_isLeaf kML_RX6_74 rfl rfl ⟨Nat.le_of_ble_eq_true rfl, Nat.le_of_ble_eq_true rfl⟩ (va_recv hX.1 hP rfl (ct_nodes hi)) rfl hl.1 rfl (Nat.le_of_ble_eq_true rfl) dX6_isRight_2 (fun H locs hP hS => ?_)
  refine lv_if_eq (tgt := 22) hx hb dX6_isRight_5 (by decide) (fun hc2 => ?_) (fun hc2 => ?_)
  · rw [if_pos hc2] at hf
    refine lv_aload_n hx hb dX6_isRight_22 rfl (lv_at hl 0 rfl) ?_
    refine lv_iload_n hx hb dX6_isRight_23 rfl (lv_at hl 1 rfl) ?_
    refine lv_aload_n hx hb dX6_isRight_24 rfl (lv_at hl 0 rfl) ?_
    refine lv_iload_n hx hb dX6_isRight_25 rfl (lv_at hl 1 rfl) ?_
    obtain ⟨q3, hq3, hf⟩ := obE hf
    refine ct_cVi (rest := [.int x1, .ref (ad (10 * i + 1))]) (tX4_leftOf hD hi hq3) hx hb hml hown ht hX hP hS wX4_leftOf kML_RX6_78 rfl rfl ⟨Nat.le_of_ble_eq_true rfl, Nat.le_of_ble_eq_true rfl⟩ (va_recv hX.1 hP rfl (ct_nodes hi)) rfl hl.1 rfl (Nat.le_of_ble_eq_true rfl) dX6_isRight_26 (fun H locs hP hS => ?_)
    obtain ⟨q4, hq4, hf⟩ := obE hf
    refine ct_cVi (rest := []) (tX4_step hD hi hq4) hx hb hml hown ht hX hP hS wX4_step kML_RX6_61 rfl rfl ⟨Nat.le_of_ble_eq_true rfl, Nat.le_of_ble_eq_true rfl⟩ (va_recv hX.1 hP rfl (ct_nodes hi)) rfl hl.1 rfl (Nat.le_of_ble_eq_true rfl) dX6_isRight_29 (fun H locs hP hS => ?_)
    refine lv_istore_n (lv' := [(2, .int q4), (0, .ref (ad (10 * i + 1))), (1, .int x1)]) hx hb dX6_isRight_32 rfl hl (by decide) rfl (fun ls hl => ?_)
    refine lv_aload_n hx hb dX6_isRight_33 rfl (lv_at hl 1 rfl) ?_
    refine lv_iload_n hx hb dX6_isRight_34 rfl (lv_at hl 2 rfl) ?_
    refine lv_aload_n hx hb dX6_isRight_35 rfl (lv_at hl 1 rfl) ?_
    refine lv_iload_n hx hb dX6_isRight_36 rfl (lv_at hl 2 rfl) ?_
    obtain ⟨q5, hq5, hf⟩ := obE hf
    refine ct_cVi (rest := [.int x1, .ref (ad (10 * i + 1))]) (tX4_rightOf hD hi hq5) hx hb hml hown ht hX hP hS wX4_rightOf kML_RX6_81 rfl rfl ⟨Nat.le_of_ble_eq_true rfl, Nat.le_of_ble_eq_true rfl⟩ (va_recv hX.1 hP rfl (ct_nodes hi)) rfl hl.1 rfl (Nat.le_of_ble_eq_true rfl) dX6_isRight_37 (fun H locs hP hS => ?_)
    obtain ⟨q6, hq6, hf⟩ := obE hf
    refine ct_cVi (rest := []) (tX4_step hD hi hq6) hx hb hml hown ht hX hP hS wX4_step kML_RX6_61 rfl rfl ⟨Nat.le_of_ble_eq_true rfl, Nat.le_of_ble_eq_true rfl⟩ (va_recv hX.1 hP rfl (ct_nodes hi)) rfl hl.1 rfl (Nat.le_of_ble_eq_true rfl) dX6_isRight_40 (fun H locs hP hS => ?_)
    refine lv_istore_n (lv' := [(3, .int q6), (2, .int q4), (0, .ref (ad (10 * i + 1))), (1, .int x1)]) hx hb dX6_isRight_43 rfl hl (by decide) rfl (fun ls hl => ?_)
    refine lv_iload_n hx hb dX6_isRight_44 rfl (lv_at hl 1 rfl) ?_
    refine lv_iconst (v := (1 : Int32)) hx hb dX6_isRight_45 (by decide) ?_
    refine lv_iconst (v := (2 : Int32)) hx hb dX6_isRight_46 (by decide) ?_
    obtain ⟨q7, hq7, hf⟩ := obE hf
    refine ct_cNi (rest := []) (tX8_isWithin hD hq7) hx hb hml hown ht hX hP hS wX8_isWithin hX.2 rfl rfl ⟨Nat.le_of_ble_eq_true rfl, Nat.le_of_ble_eq_true rfl⟩ rfl hl.1 rfl (Nat.le_of_ble_eq_true rfl) dX6_isRight_47 (fun H locs hP hS => ?_)
    refine lv_if_eq (tgt := 66) hx hb dX6_isRight_50 (by decide) (fun hc8 => ?_) (fun hc8 => ?_)
    · rw [if_pos hc8] at hf
      refine lv_iconst (v := (0 : Int32)) hx hb dX6_isRight_66 (by decide) ?_
      have e0 := Option.some.inj hf
      subst e0
      exact hret _ _ _ _ (Or.inl rfl) hP hS dX6_isRight_67
    · rw [if_neg hc8] at hf
      refine lv_iload_n hx hb dX6_isRight_53 rfl (lv_at hl 0 rfl) ?_
      refine lv_iconst (v := (1 : Int32)) hx hb dX6_isRight_54 (by decide) ?_
      refine lv_iconst (v := (2 : Int32)) hx hb dX6_isRight_55 (by decide) ?_
      obtain ⟨q9, hq9, hf⟩ := obE hf
      refine ct_cNi (rest := []) (tX8_isWithin hD hq9) hx hb hml hown ht hX hP hS wX8_isWithin hX.2 rfl rfl ⟨Nat.le_of_ble_eq_true rfl, Nat.le_of_ble_eq_true rfl⟩ rfl hl.1 rfl (Nat.le_of_ble_eq_true rfl) dX6_isRight_56 (fun H locs hP hS => ?_)
      refine lv_if_eq (tgt := 66) hx hb dX6_isRight_59 (by decide) (fun hc10 => ?_) (fun hc10 => ?_)
      · rw [if_pos hc10] at hf
        refine lv_iconst (v := (0 : Int32)) hx hb dX6_isRight_66 (by decide) ?_
        have e0 := Option.some.inj hf
        subst e0
        exact hret _ _ _ _ (Or.inl rfl) hP hS dX6_isRight_67
      · rw [if_neg hc10] at hf
        refine lv_iconst (v := (1 : Int32)) hx hb dX6_isRight_62 (by decide) ?_
        refine lv_goto (tgt := 67) hx hb dX6_isRight_63 (by decide) ?_
        have e0 := Option.some.inj hf
        subst e0
        exact hret _ _ _ _ (Or.inr rfl) hP hS dX6_isRight_67
  · rw [if_neg hc2] at hf
    refine lv_aload_n hx hb dX6_isRight_8 rfl (lv_at hl 0 rfl) ?_
    refine lv_iload_n hx hb dX6_isRight_9 rfl (lv_at hl 1 rfl) ?_
    obtain ⟨q11, hq11, hf⟩ := obE hf
    refine ct_cVi (rest := []) (tX4_rankOf hD hi hq11) hx hb hml hown ht hX hP hS wX4_rankOf kML_RX6_55 rfl rfl ⟨Nat.le_of_ble_eq_true rfl, Nat.le_of_ble_eq_true rfl⟩ (va_recv hX.1 hP rfl (ct_nodes hi)) rfl hl.1 rfl (Nat.le_of_ble_eq_true rfl) dX6_isRight_10 (fun H locs hP hS => ?_)
    refine lv_if_ne (tgt := 20) hx hb dX6_isRight_13 (by decide) (fun hc12 => ?_) (fun hc12 => ?_)
    · rw [if_neg hc12] at hf
      refine lv_iconst (v := (0 : Int32)) hx hb dX6_isRight_20 (by decide) ?_
      have e0 := Option.some.inj hf
      subst e0
      exact hret _ _ _ _ (Or.inl rfl) hP hS dX6_isRight_21
    · rw [if_pos hc12] at hf
      refine lv_iconst (v := (1 : Int32)) hx hb dX6_isRight_16 (by decide) ?_
      refine lv_goto (tgt := 21) hx hb dX6_isRight_17 (by decide) ?_
      have e0 := Option.some.inj hf
      subst e0
      exact hret _ _ _ _ (Or.inr rfl) hP hS dX6_isRight_21
def fX6_firstWrong_7 (F : Nat) (τ : Tau) : Nat → Int32 → Int32 → Option (Int32)
  | 0, _, _ => none
  | n + 1, x1, x2 => if (τ 6 1) ≤ x2 then (some (-1 : Int32)) else ((fX6_isRight F τ x1).bind fun q2 => (if q2 = 0 then (some x2) else ((fX4_nextByNumber F τ x1).bind fun q4 => (fX6_firstWrong_7 F τ n q4 (x2 + (1 : Int32))))))
def fX6_firstWrong (F : Nat) (τ : Tau) : Option (Int32) := fX6_firstWrong_7 F τ F (τ 6 0) (0 : Int32)
abbrev rX6_firstWrong : Room := { frames := 3, cells := 0, slots := 0, locals := 66 }
theorem wX6_firstWrong : kF yX6_firstWrong cX6_firstWrong 3 (some .int) 1 := ⟨kCO_yX6_firstWrong, kSM_yX6_firstWrong, kIN_RX6, by decide +kernel, by decide +kernel, by decide +kernel⟩
set_option maxHeartbeats 4000000 in
set_option maxRecDepth 100000 in
theorem tX6_firstWrong {l : Launch} {D : va_G} {cI cT cM : ClassId} {ad : Nat → Nat} (hD : gInj 167 ad) {F : Nat} {σ : Sig} {i : Nat} (hi : i < 16) {τ : Tau} {res : Int32} (hf : fX6_firstWrong F τ = some res) : CTi l yX6_firstWrong cX6_firstWrong 3 .int rX6_firstWrong D (cTy cI cT cM) (gA 167 ad) [.ref (ad (10 * i + 1))] (cw cI cT cM ad (u3 σ i τ)) res (cw cI cT cM ad (u3 σ i τ)) := by
  refine ct_int (by decide) (Nat.le_of_ble_eq_true rfl) ?_
  intro p e s m args below meth c Q ls hx hb hml hown ht hX hret hP hS hl
  have hl : lv_has ls 3 [(0, .ref (ad (10 * i + 1)))] := hl
  have blk7 : ∀ (n7 : Nat) (H : Heap) (locs : List Loc) (x1 : Int32) (x2 : Int32) (ls : Array Slot), va_P D vwCl (cw cI cT cM ad (u3 σ i τ)) H → va_S (gA 167 ad) s.heap H locs → lv_has ls 3 [(0, .ref (ad (10 * i + 1))), (1, .int x1), (2, .int x2)] → fX6_firstWrong_7 F τ n7 x1 x2 = some res → W p l e rX6_firstWrong s m args below meth c H locs 0 0 Q (F0 m 7 ls []) := by
    intro n7
    induction n7 with
    | zero =>
      intro H locs x1 x2 ls hP hS hl hf
      rw [fX6_firstWrong_7] at hf
      cases hf
    | succ n7 ih7 =>
      skip
      intro H locs x1 x2 ls hP hS hl hf
      rw [fX6_firstWrong_7] at hf
      refine lv_iload_n hx hb dX6_firstWrong_7 rfl (lv_at hl 2 rfl) ?_
      refine lv_aload_n hx hb dX6_firstWrong_8 rfl (lv_at hl 0 rfl) ?_
      refine va_get (ci := 3) (v := .int (τ 6 1)) hx hb ht i_X4 hown hX.1 hP (10 * i + 1) (ct_nodes hi) rfl 7 (by decide) (ht _ kFL_RX6_64) (fun _ h9 => h9) rfl dX6_firstWrong_9 ?_
      refine lv_icmp_ge (tgt := 37) hx hb dX6_firstWrong_12 (by decide) (fun hc1 => ?_) (fun hc1 => ?_)
      · rw [if_pos hc1] at hf
        refine lv_iconst (v := (-1 : Int32)) hx hb dX6_firstWrong_37 (by decide) ?_
        have e0 := Option.some.inj hf
        subst e0
        exact hret _ _ _ _ hP hS dX6_firstWrong_38
      · rw [if_neg hc1] at hf
        refine lv_aload_n hx hb dX6_firstWrong_15 rfl (lv_at hl 0 rfl) ?_
        refine lv_iload_n hx hb dX6_firstWrong_16 rfl (lv_at hl 1 rfl) ?_
        obtain ⟨q2, hq2, hf⟩ := obE hf
        refine ct_cSi (rest := []) (tX6_isRight hD hi hq2) hx hb hml hown ht hX hP hS wX6_isRight kML_RX6_67 rfl rfl ⟨Nat.le_of_ble_eq_true rfl, Nat.le_of_ble_eq_true rfl⟩ rfl hl.1 rfl (Nat.le_of_ble_eq_true rfl) dX6_firstWrong_17 (fun H locs hP hS => ?_)
        refine lv_if_ne (tgt := 25) hx hb dX6_firstWrong_20 (by decide) (fun hc3 => ?_) (fun hc3 => ?_)
        · rw [if_neg hc3] at hf
          refine lv_aload_n hx hb dX6_firstWrong_25 rfl (lv_at hl 0 rfl) ?_
          refine lv_iload_n hx hb dX6_firstWrong_26 rfl (lv_at hl 1 rfl) ?_
          obtain ⟨q4, hq4, hf⟩ := obE hf
          refine ct_cVi (rest := []) (tX4_nextByNumber hD hi hq4) hx hb hml hown ht hX hP hS wX4_nextByNumber kML_RX6_71 rfl rfl ⟨Nat.le_of_ble_eq_true rfl, Nat.le_of_ble_eq_true rfl⟩ (va_recv hX.1 hP rfl (ct_nodes hi)) rfl hl.1 rfl (Nat.le_of_ble_eq_true rfl) dX6_firstWrong_27 (fun H locs hP hS => ?_)
          refine lv_istore_n (lv' := [(1, .int q4), (0, .ref (ad (10 * i + 1))), (2, .int x2)]) hx hb dX6_firstWrong_30 rfl hl (by decide) rfl (fun ls hl => ?_)
          refine lv_iinc (v := x2 + (1 : Int32)) (lv' := [(2, .int (x2 + (1 : Int32))), (1, .int q4), (0, .ref (ad (10 * i + 1)))]) hx hb dX6_firstWrong_31 hl (k := 2) rfl rfl (by decide) rfl (fun ls hl => ?_)
          refine lv_goto (tgt := 7) hx hb dX6_firstWrong_34 (by decide) ?_
          exact ih7 _ _ q4 (x2 + (1 : Int32)) ls hP hS (lv_sub hl [2, 1, 0] rfl) hf
        · rw [if_pos hc3] at hf
          refine lv_iload_n hx hb dX6_firstWrong_23 rfl (lv_at hl 2 rfl) ?_
          have e0 := Option.some.inj hf
          subst e0
          exact hret _ _ _ _ hP hS dX6_firstWrong_24
  unfold fX6_firstWrong at hf
  refine lv_aload_n hx hb dX6_firstWrong_0 rfl (lv_at hl 0 rfl) ?_
  refine va_get (ci := 3) (v := .int (τ 6 0)) hx hb ht i_X4 hown hX.1 hP (10 * i + 1) (ct_nodes hi) rfl 6 (by decide) (ht _ kFL_RX6_28) (fun _ h9 => h9) rfl dX6_firstWrong_1 ?_
  refine lv_istore_n (lv' := [(1, .int (τ 6 0)), (0, .ref (ad (10 * i + 1)))]) hx hb dX6_firstWrong_4 rfl hl (by decide) rfl (fun ls hl => ?_)
  refine lv_iconst (v := (0 : Int32)) hx hb dX6_firstWrong_5 (by decide) ?_
  refine lv_istore_n (lv' := [(2, .int ((0 : Int32))), (1, .int (τ 6 0)), (0, .ref (ad (10 * i + 1)))]) hx hb dX6_firstWrong_6 rfl hl (by decide) rfl (fun ls hl => ?_)
  exact blk7 F _ _ (τ 6 0) (0 : Int32) ls hP hS (lv_sub hl [2, 1, 0] rfl) hf
def fX7_turnAfterAdding_107 (F : Nat) (τ : Tau) (x1 : Int32) : Option (Tau) := (fX4_addRank F τ x1 (-1 : Int32)).bind fun q10 => (some q10)
def fX7_turnAfterAdding_14 (F : Nat) (τ : Tau) (x1 : Int32) (x2 : Int32) (y1 : Int32) (y2 : Int32) : Option (Tau) := (fX4_childOf F τ y1 y2).bind fun q2 => ((fX4_step F τ x2 q2).bind fun q3 => (if q3 = (1 : Int32) then ((fX4_turnOverParent F τ q2).bind fun q6 => ((fX4_turnOverParent F q6 q2).bind fun q7 => ((fX4_addRank F (u2 q7 8 2 ((q7 8 2) + (2 : Int32))) q2 (1 : Int32)).bind fun q8 => ((fX4_addRank F q8 x2 (-1 : Int32)).bind fun q9 => (fX7_turnAfterAdding_107 F q9 x1))))) else ((fX4_turnOverParent F τ x2).bind fun q5 => (fX7_turnAfterAdding_107 F (u2 q5 8 2 ((q5 8 2) + (1 : Int32))) x1))))
def fX7_turnAfterAdding (F : Nat) (τ : Tau) (x1 : Int32) (x2 : Int32) (x3 : Int32) : Option (Tau) := if x3 = 0 then (fX7_turnAfterAdding_14 F τ x1 x2 x2 (1 : Int32)) else (fX7_turnAfterAdding_14 F τ x1 x2 x2 (0 : Int32))
abbrev rX7_turnAfterAdding : Room := { frames := 2, cells := 0, slots := 0, locals := 48 }
theorem wX7_turnAfterAdding : kV yX7_turnAfterAdding cX7_turnAfterAdding 5 none 3 := ⟨kCO_yX7_turnAfterAdding, kIM_yX7_turnAfterAdding, kSE_yX7_turnAfterAdding, kIN_RX7, by decide +kernel, by decide +kernel, by decide +kernel⟩
set_option maxHeartbeats 4000000 in
set_option maxRecDepth 100000 in
theorem tX7_turnAfterAdding {l : Launch} {D : va_G} {cI cT cM : ClassId} {ad : Nat → Nat} (hD : gInj 167 ad) {F : Nat} {σ : Sig} {i : Nat} (hi : i < 16) {τ : Tau} {x1 : Int32} {x2 : Int32} {x3 : Int32} {res : Tau} (hf : fX7_turnAfterAdding F τ x1 x2 x3 = some res) : CTv l yX7_turnAfterAdding cX7_turnAfterAdding 5 rX7_turnAfterAdding D (cTy cI cT cM) (gA 167 ad) [.ref (ad (10 * i)), .int x1, .int x2, .int x3] (cw cI cT cM ad (u3 σ i τ)) (cw cI cT cM ad (u3 σ i res)) := by
  refine ct_void (by decide) (Nat.le_of_ble_eq_true rfl) ?_
  intro p e s m args below meth c Q ls hx hb hml hown ht hX hret hP hS hl
  have hl : lv_has ls 5 [(0, .ref (ad (10 * i))), (1, .int x1), (2, .int x2), (3, .int x3)] := hl
  have blk107 : ∀ (H : Heap) (locs : List Loc) (τ : Tau) (x1 : Int32) (ls : Array Slot), va_P D vwCl (cw cI cT cM ad (u3 σ i τ)) H → va_S (gA 167 ad) s.heap H locs → lv_has ls 5 [(0, .ref (ad (10 * i))), (1, .int x1)] → fX7_turnAfterAdding_107 F τ x1 = some res → W p l e rX7_turnAfterAdding s m args below meth c H locs 0 0 Q (F0 m 107 ls []) := by
    intro H locs τ x1 ls hP hS hl hf
    unfold fX7_turnAfterAdding_107 at hf
    refine lv_aload_n hx hb dX7_turnAfterAdding_107 rfl (lv_at hl 0 rfl) ?_
    refine va_get (ci := 5) (v := .ref (ad (10 * i + 1))) hx hb ht i_X7 hown hX.1 hP (10 * i) (cw_tree (i := i) hi) rfl 0 (by decide) (ht _ kFL_RX7_12) (fun _ h9 => h9) rfl dX7_turnAfterAdding_108 ?_
    refine lv_iload_n hx hb dX7_turnAfterAdding_111 rfl (lv_at hl 1 rfl) ?_
    refine lv_iconst (v := (-1 : Int32)) hx hb dX7_turnAfterAdding_112 (by decide) ?_
    obtain ⟨q10, hq10, hf⟩ := obE hf
    refine ct_cVv (rest := []) (tX4_addRank hD hi hq10) hx hb hml hown ht hX hP hS wX4_addRank kML_RX7_103 rfl rfl ⟨Nat.le_of_ble_eq_true rfl, Nat.le_of_ble_eq_true rfl⟩ (va_recv hX.1 hP rfl (ct_nodes hi)) rfl hl.1 rfl (Nat.le_of_ble_eq_true rfl) dX7_turnAfterAdding_113 (fun H locs hP hS => ?_)
    have e0 := Option.some.inj hf
    subst e0
    exact hret _ _ _ _ hP hS dX7_turnAfterAdding_116
  have blk14 : ∀ (H : Heap) (locs : List Loc) (τ : Tau) (x1 : Int32) (x2 : Int32) (y1 : Int32) (y2 : Int32) (ls : Array Slot), va_P D vwCl (cw cI cT cM ad (u3 σ i τ)) H → va_S (gA 167 ad) s.heap H locs → lv_has ls 5 [(0, .ref (ad (10 * i))), (1, .int x1), (2, .int x2)] → fX7_turnAfterAdding_14 F τ x1 x2 y1 y2 = some res → W p l e rX7_turnAfterAdding s m args below meth c H locs 0 0 Q (F0 m 14 ls [.int y2, .int y1, .ref (ad (10 * i + 1))]) := by
    intro H locs τ x1 x2 y1 y2 ls hP hS hl hf
    unfold fX7_turnAfterAdding_14 at hf
    obtain ⟨q2, hq2, hf⟩ := obE hf
    refine ct_cVi (rest := []) (tX4_childOf hD hi hq2) hx hb hml hown ht hX hP hS wX4_childOf kML_RX7_85 rfl rfl ⟨Nat.le_of_ble_eq_true rfl, Nat.le_of_ble_eq_true rfl⟩ (va_recv hX.1 hP rfl (ct_nodes hi)) rfl hl.1 rfl (Nat.le_of_ble_eq_true rfl) dX7_turnAfterAdding_14 (fun H locs hP hS => ?_)
    refine lv_istore (lv' := [(4, .int q2), (0, .ref (ad (10 * i))), (1, .int x1), (2, .int x2)]) hx hb dX7_turnAfterAdding_17 hl (by decide) rfl (fun ls hl => ?_)
    refine lv_aload_n hx hb dX7_turnAfterAdding_19 rfl (lv_at hl 1 rfl) ?_
    refine va_get (ci := 5) (v := .ref (ad (10 * i + 1))) hx hb ht i_X7 hown hX.1 hP (10 * i) (cw_tree (i := i) hi) rfl 0 (by decide) (ht _ kFL_RX7_12) (fun _ h9 => h9) rfl dX7_turnAfterAdding_20 ?_
    refine lv_iload_n hx hb dX7_turnAfterAdding_23 rfl (lv_at hl 3 rfl) ?_
    refine lv_iload hx hb dX7_turnAfterAdding_24 (lv_at hl 0 rfl) ?_
    obtain ⟨q3, hq3, hf⟩ := obE hf
    refine ct_cVi (rest := []) (tX4_step hD hi hq3) hx hb hml hown ht hX hP hS wX4_step kML_RX7_82 rfl rfl ⟨Nat.le_of_ble_eq_true rfl, Nat.le_of_ble_eq_true rfl⟩ (va_recv hX.1 hP rfl (ct_nodes hi)) rfl hl.1 rfl (Nat.le_of_ble_eq_true rfl) dX7_turnAfterAdding_26 (fun H locs hP hS => ?_)
    refine lv_iconst (v := (1 : Int32)) hx hb dX7_turnAfterAdding_29 (by decide) ?_
    refine lv_icmp_ne (tgt := 86) hx hb dX7_turnAfterAdding_30 (by decide) (fun hc4 => ?_) (fun hc4 => ?_)
    · rw [if_neg hc4] at hf
      refine lv_aload_n hx hb dX7_turnAfterAdding_86 rfl (lv_at hl 1 rfl) ?_
      refine va_get (ci := 5) (v := .ref (ad (10 * i + 1))) hx hb ht i_X7 hown hX.1 hP (10 * i) (cw_tree (i := i) hi) rfl 0 (by decide) (ht _ kFL_RX7_12) (fun _ h9 => h9) rfl dX7_turnAfterAdding_87 ?_
      refine lv_iload_n hx hb dX7_turnAfterAdding_90 rfl (lv_at hl 3 rfl) ?_
      obtain ⟨q5, hq5, hf⟩ := obE hf
      refine ct_cVv (rest := []) (tX4_turnOverParent hD hi hq5) hx hb hml hown ht hX hP hS wX4_turnOverParent kML_RX7_96 rfl rfl ⟨Nat.le_of_ble_eq_true rfl, Nat.le_of_ble_eq_true rfl⟩ (va_recv hX.1 hP rfl (ct_nodes hi)) rfl hl.1 rfl (Nat.le_of_ble_eq_true rfl) dX7_turnAfterAdding_91 (fun H locs hP hS => ?_)
      refine lv_aload_n hx hb dX7_turnAfterAdding_94 rfl (lv_at hl 1 rfl) ?_
      refine va_get (ci := 5) (v := .ref (ad (10 * i + (1 + 8)))) hx hb ht i_X7 hown hX.1 hP (10 * i) (cw_tree (i := i) hi) rfl 2 (by decide) (ht _ kFL_RX7_25) (fun _ h9 => h9) rfl dX7_turnAfterAdding_95 ?_
      refine lv_dup hx hb dX7_turnAfterAdding_98 rfl ?_
      refine va_get (ci := 0) (v := .int (q5 8 2)) hx hb ht i_X1 hown hX.1 hP (10 * i + (1 + 8)) (ct_cnt hi (Or.inr rfl)) rfl 2 (by decide) (ht _ kFL_RX7_99) (fun _ h9 => h9) rfl dX7_turnAfterAdding_99 ?_
      refine lv_iconst (v := (1 : Int32)) hx hb dX7_turnAfterAdding_102 (by decide) ?_
      refine lv_iadd hx hb dX7_turnAfterAdding_103 ?_
      refine cr_putC hD hx hb ht hown hX hP hS hi (Or.inr rfl) (Or.inr (Or.inr ⟨rfl, rfl⟩)) kFL_RX7_99 dX7_turnAfterAdding_104 (fun H locs hP hS => ?_)
      exact blk107 _ _ (u2 q5 8 2 ((q5 8 2) + (1 : Int32))) x1 ls hP hS (lv_sub hl [1, 2] rfl) hf
    · rw [if_pos hc4] at hf
      refine lv_aload_n hx hb dX7_turnAfterAdding_33 rfl (lv_at hl 1 rfl) ?_
      refine va_get (ci := 5) (v := .ref (ad (10 * i + 1))) hx hb ht i_X7 hown hX.1 hP (10 * i) (cw_tree (i := i) hi) rfl 0 (by decide) (ht _ kFL_RX7_12) (fun _ h9 => h9) rfl dX7_turnAfterAdding_34 ?_
      refine lv_iload hx hb dX7_turnAfterAdding_37 (lv_at hl 0 rfl) ?_
      obtain ⟨q6, hq6, hf⟩ := obE hf
      refine ct_cVv (rest := []) (tX4_turnOverParent hD hi hq6) hx hb hml hown ht hX hP hS wX4_turnOverParent kML_RX7_96 rfl rfl ⟨Nat.le_of_ble_eq_true rfl, Nat.le_of_ble_eq_true rfl⟩ (va_recv hX.1 hP rfl (ct_nodes hi)) rfl hl.1 rfl (Nat.le_of_ble_eq_true rfl) dX7_turnAfterAdding_39 (fun H locs hP hS => ?_)
      refine lv_aload_n hx hb dX7_turnAfterAdding_42 rfl (lv_at hl 1 rfl) ?_
      refine va_get (ci := 5) (v := .ref (ad (10 * i + 1))) hx hb ht i_X7 hown hX.1 hP (10 * i) (cw_tree (i := i) hi) rfl 0 (by decide) (ht _ kFL_RX7_12) (fun _ h9 => h9) rfl dX7_turnAfterAdding_43 ?_
      refine lv_iload hx hb dX7_turnAfterAdding_46 (lv_at hl 0 rfl) ?_
      obtain ⟨q7, hq7, hf⟩ := obE hf
      refine ct_cVv (rest := []) (tX4_turnOverParent hD hi hq7) hx hb hml hown ht hX hP hS wX4_turnOverParent kML_RX7_96 rfl rfl ⟨Nat.le_of_ble_eq_true rfl, Nat.le_of_ble_eq_true rfl⟩ (va_recv hX.1 hP rfl (ct_nodes hi)) rfl hl.1 rfl (Nat.le_of_ble_eq_true rfl) dX7_turnAfterAdding_48 (fun H locs hP hS => ?_)
      refine lv_aload_n hx hb dX7_turnAfterAdding_51 rfl (lv_at hl 1 rfl) ?_
      refine va_get (ci := 5) (v := .ref (ad (10 * i + (1 + 8)))) hx hb ht i_X7 hown hX.1 hP (10 * i) (cw_tree (i := i) hi) rfl 2 (by decide) (ht _ kFL_RX7_25) (fun _ h9 => h9) rfl dX7_turnAfterAdding_52 ?_
      refine lv_dup hx hb dX7_turnAfterAdding_55 rfl ?_
      refine va_get (ci := 0) (v := .int (q7 8 2)) hx hb ht i_X1 hown hX.1 hP (10 * i + (1 + 8)) (ct_cnt hi (Or.inr rfl)) rfl 2 (by decide) (ht _ kFL_RX7_99) (fun _ h9 => h9) rfl dX7_turnAfterAdding_56 ?_
      refine lv_iconst (v := (2 : Int32)) hx hb dX7_turnAfterAdding_59 (by decide) ?_
      refine lv_iadd hx hb dX7_turnAfterAdding_60 ?_
      refine cr_putC hD hx hb ht hown hX hP hS hi (Or.inr rfl) (Or.inr (Or.inr ⟨rfl, rfl⟩)) kFL_RX7_99 dX7_turnAfterAdding_61 (fun H locs hP hS => ?_)
      refine lv_aload_n hx hb dX7_turnAfterAdding_64 rfl (lv_at hl 1 rfl) ?_
      refine va_get (ci := 5) (v := .ref (ad (10 * i + 1))) hx hb ht i_X7 hown hX.1 hP (10 * i) (cw_tree (i := i) hi) rfl 0 (by decide) (ht _ kFL_RX7_12) (fun _ h9 => h9) rfl dX7_turnAfterAdding_65 ?_
      refine lv_iload hx hb dX7_turnAfterAdding_68 (lv_at hl 0 rfl) ?_
      refine lv_iconst (v := (1 : Int32)) hx hb dX7_turnAfterAdding_70 (by decide) ?_
      obtain ⟨q8, hq8, hf⟩ := obE hf
      refine ct_cVv (rest := []) (tX4_addRank hD hi hq8) hx hb hml hown ht hX hP hS wX4_addRank kML_RX7_103 rfl rfl ⟨Nat.le_of_ble_eq_true rfl, Nat.le_of_ble_eq_true rfl⟩ (va_recv hX.1 hP rfl (ct_nodes hi)) rfl hl.1 rfl (Nat.le_of_ble_eq_true rfl) dX7_turnAfterAdding_71 (fun H locs hP hS => ?_)
      refine lv_aload_n hx hb dX7_turnAfterAdding_74 rfl (lv_at hl 1 rfl) ?_
      refine va_get (ci := 5) (v := .ref (ad (10 * i + 1))) hx hb ht i_X7 hown hX.1 hP (10 * i) (cw_tree (i := i) hi) rfl 0 (by decide) (ht _ kFL_RX7_12) (fun _ h9 => h9) rfl dX7_turnAfterAdding_75 ?_
      refine lv_iload_n hx hb dX7_turnAfterAdding_78 rfl (lv_at hl 3 rfl) ?_
      refine lv_iconst (v := (-1 : Int32)) hx hb dX7_turnAfterAdding_79 (by decide) ?_
      obtain ⟨q9, hq9, hf⟩ := obE hf
      refine ct_cVv (rest := []) (tX4_addRank hD hi hq9) hx hb hml hown ht hX hP hS wX4_addRank kML_RX7_103 rfl rfl ⟨Nat.le_of_ble_eq_true rfl, Nat.le_of_ble_eq_true rfl⟩ (va_recv hX.1 hP rfl (ct_nodes hi)) rfl hl.1 rfl (Nat.le_of_ble_eq_true rfl) dX7_turnAfterAdding_80 (fun H locs hP hS => ?_)
      refine lv_goto (tgt := 107) hx hb dX7_turnAfterAdding_83 (by decide) ?_
      exact blk107 _ _ q9 x1 ls hP hS (lv_sub hl [1, 2] rfl) hf
  unfold fX7_turnAfterAdding at hf
  refine lv_aload_n hx hb dX7_turnAfterAdding_0 rfl (lv_at hl 0 rfl) ?_
  refine va_get (ci := 5) (v := .ref (ad (10 * i + 1))) hx hb ht i_X7 hown hX.1 hP (10 * i) (cw_tree (i := i) hi) rfl 0 (by decide) (ht _ kFL_RX7_12) (fun _ h9 => h9) rfl dX7_turnAfterAdding_1 ?_
  refine lv_iload_n hx hb dX7_turnAfterAdding_4 rfl (lv_at hl 2 rfl) ?_
  refine lv_iload_n hx hb dX7_turnAfterAdding_5 rfl (lv_at hl 3 rfl) ?_
  refine lv_if_ne (tgt := 13) hx hb dX7_turnAfterAdding_6 (by decide) (fun hc1 => ?_) (fun hc1 => ?_)
  · rw [if_neg hc1] at hf
    refine lv_iconst (v := (0 : Int32)) hx hb dX7_turnAfterAdding_13 (by decide) ?_
    exact blk14 _ _ τ x1 x2 x2 (0 : Int32) ls hP hS (lv_sub hl [0, 1, 2] rfl) hf
  · rw [if_pos hc1] at hf
    refine lv_iconst (v := (1 : Int32)) hx hb dX7_turnAfterAdding_9 (by decide) ?_
    refine lv_goto (tgt := 14) hx hb dX7_turnAfterAdding_10 (by decide) ?_
    exact blk14 _ _ τ x1 x2 x2 (1 : Int32) ls hP hS (lv_sub hl [0, 1, 2] rfl) hf
def fX7_promote (F : Nat) (τ : Tau) (x1 : Int32) : Option (Tau) := (fX4_addRank F τ x1 (1 : Int32)).bind fun q1 => (some (u2 q1 8 0 ((q1 8 0) + (1 : Int32))))
abbrev rX7_promote : Room := { frames := 1, cells := 0, slots := 0, locals := 22 }
theorem wX7_promote : kV yX7_promote cX7_promote 2 none 1 := ⟨kCO_yX7_promote, kIM_yX7_promote, kSE_yX7_promote, kIN_RX7, by decide +kernel, by decide +kernel, by decide +kernel⟩
set_option maxHeartbeats 4000000 in
set_option maxRecDepth 100000 in
theorem tX7_promote {l : Launch} {D : va_G} {cI cT cM : ClassId} {ad : Nat → Nat} (hD : gInj 167 ad) {F : Nat} {σ : Sig} {i : Nat} (hi : i < 16) {τ : Tau} {x1 : Int32} {res : Tau} (hf : fX7_promote F τ x1 = some res) : CTv l yX7_promote cX7_promote 2 rX7_promote D (cTy cI cT cM) (gA 167 ad) [.ref (ad (10 * i)), .int x1] (cw cI cT cM ad (u3 σ i τ)) (cw cI cT cM ad (u3 σ i res)) := by
  refine ct_void (by decide) (Nat.le_of_ble_eq_true rfl) ?_
  intro p e s m args below meth c Q ls hx hb hml hown ht hX hret hP hS hl
  have hl : lv_has ls 2 [(0, .ref (ad (10 * i))), (1, .int x1)] := hl
  unfold fX7_promote at hf
  refine lv_aload_n hx hb dX7_promote_0 rfl (lv_at hl 0 rfl) ?_
  refine va_get (ci := 5) (v := .ref (ad (10 * i + 1))) hx hb ht i_X7 hown hX.1 hP (10 * i) (cw_tree (i := i) hi) rfl 0 (by decide) (ht _ kFL_RX7_12) (fun _ h9 => h9) rfl dX7_promote_1 ?_
  refine lv_iload_n hx hb dX7_promote_4 rfl (lv_at hl 1 rfl) ?_
  refine lv_iconst (v := (1 : Int32)) hx hb dX7_promote_5 (by decide) ?_
  obtain ⟨q1, hq1, hf⟩ := obE hf
  refine ct_cVv (rest := []) (tX4_addRank hD hi hq1) hx hb hml hown ht hX hP hS wX4_addRank kML_RX7_103 rfl rfl ⟨Nat.le_of_ble_eq_true rfl, Nat.le_of_ble_eq_true rfl⟩ (va_recv hX.1 hP rfl (ct_nodes hi)) rfl hl.1 rfl (Nat.le_of_ble_eq_true rfl) dX7_promote_6 (fun H locs hP hS => ?_)
  refine lv_aload_n hx hb dX7_promote_9 rfl (lv_at hl 0 rfl) ?_
  refine va_get (ci := 5) (v := .ref (ad (10 * i + (1 + 8)))) hx hb ht i_X7 hown hX.1 hP (10 * i) (cw_tree (i := i) hi) rfl 2 (by decide) (ht _ kFL_RX7_25) (fun _ h9 => h9) rfl dX7_promote_10 ?_
  refine lv_dup hx hb dX7_promote_13 rfl ?_
  refine va_get (ci := 0) (v := .int (q1 8 0)) hx hb ht i_X1 hown hX.1 hP (10 * i + (1 + 8)) (ct_cnt hi (Or.inr rfl)) rfl 0 (by decide) (ht _ kFL_RX7_112) (fun _ h9 => h9) rfl dX7_promote_14 ?_
  refine lv_iconst (v := (1 : Int32)) hx hb dX7_promote_17 (by decide) ?_
  refine lv_iadd hx hb dX7_promote_18 ?_
  refine cr_putC hD hx hb ht hown hX hP hS hi (Or.inr rfl) (Or.inl ⟨rfl, rfl⟩) kFL_RX7_112 dX7_promote_19 (fun H locs hP hS => ?_)
  have e0 := Option.some.inj hf
  subst e0
  exact hret _ _ _ _ hP hS dX7_promote_22
def fX7_mendUpwards_77 (F : Nat) (k14 : Tau → Int32 → Int32 → Int32 → Option (Tau)) (τ : Tau) (x2 : Int32) (x3 : Int32) (x4 : Int32) (x5 : Int32) (y1 : Int32) (y3 : Int32) (y4 : Int32) : Option (Tau) := (fX4_childOf F τ y3 y4).bind fun q9 => ((fX4_step F τ y1 q9).bind fun q10 => (if q10 = (1 : Int32) then ((fX7_promote F τ x3).bind fun q12 => ((fX4_parentOf F q12 x3).bind fun q13 => (k14 q12 x3 q13 (x4 + (1 : Int32))))) else ((fX7_turnAfterAdding F τ x3 x2 x5).bind fun q14 => (some q14))))
def fX7_mendUpwards_55 (F : Nat) (k14 : Tau → Int32 → Int32 → Int32 → Option (Tau)) (τ : Tau) (x2 : Int32) (x3 : Int32) (x4 : Int32) (y0 : Int32) : Option (Tau) := if y0 = 0 then (fX7_mendUpwards_77 F k14 τ x2 x3 x4 y0 x3 x3 (1 : Int32)) else (fX7_mendUpwards_77 F k14 τ x2 x3 x4 y0 x3 x3 (0 : Int32))
def fX7_mendUpwards_14 (F : Nat) : Nat → Tau → Int32 → Int32 → Int32 → Option (Tau)
  | 0, _, _, _, _ => none
  | n + 1, τ, x2, x3, x4 => if (60 : Int32) ≤ x4 then (some τ) else (if x3 = (-1 : Int32) then (some τ) else ((fX4_step F τ x3 x2).bind fun q4 => (if q4 = 0 then ((fX4_leftOf F τ x3).bind fun q6 => (if q6 = x2 then (fX7_mendUpwards_55 F (fun τ x2 x3 x4 => fX7_mendUpwards_14 F n τ x2 x3 x4) τ x2 x3 x4 (1 : Int32)) else (fX7_mendUpwards_55 F (fun τ x2 x3 x4 => fX7_mendUpwards_14 F n τ x2 x3 x4) τ x2 x3 x4 (0 : Int32)))) else (some τ))))
def fX7_mendUpwards (F : Nat) (τ : Tau) (x1 : Int32) : Option (Tau) := (fX4_parentOf F τ x1).bind fun q1 => (fX7_mendUpwards_14 F F τ x1 q1 (0 : Int32))
abbrev rX7_mendUpwards : Room := { frames := 3, cells := 0, slots := 0, locals := 72 }
theorem wX7_mendUpwards : kV yX7_mendUpwards cX7_mendUpwards 6 none 1 := ⟨kCO_yX7_mendUpwards, kIM_yX7_mendUpwards, kSE_yX7_mendUpwards, kIN_RX7, by decide +kernel, by decide +kernel, by decide +kernel⟩
set_option maxHeartbeats 4000000 in
set_option maxRecDepth 100000 in
theorem tX7_mendUpwards {l : Launch} {D : va_G} {cI cT cM : ClassId} {ad : Nat → Nat} (hD : gInj 167 ad) {F : Nat} {σ : Sig} {i : Nat} (hi : i < 16) {τ : Tau} {x1 : Int32} {res : Tau} (hf : fX7_mendUpwards F τ x1 = some res) : CTv l yX7_mendUpwards cX7_mendUpwards 6 rX7_mendUpwards D (cTy cI cT cM) (gA 167 ad) [.ref (ad (10 * i)), .int x1] (cw cI cT cM ad (u3 σ i τ)) (cw cI cT cM ad (u3 σ i res)) := by
  refine ct_void (by decide) (Nat.le_of_ble_eq_true rfl) ?_
  intro p e s m args below meth c Q ls hx hb hml hown ht hX hret hP hS hl
  have hl : lv_has ls 6 [(0, .ref (ad (10 * i))), (1, .int x1)] := hl
  have blk14 : ∀ (n14 : Nat) (H : Heap) (locs : List Loc) (τ : Tau) (x2 : Int32) (x3 : Int32) (x4 : Int32) (ls : Array Slot), va_P D vwCl (cw cI cT cM ad (u3 σ i τ)) H → va_S (gA 167 ad) s.heap H locs → lv_has ls 6 [(0, .ref (ad (10 * i))), (2, .int x2), (3, .int x3), (4, .int x4)] → fX7_mendUpwards_14 F n14 τ x2 x3 x4 = some res → W p l e rX7_mendUpwards s m args below meth c H locs 0 0 Q (F0 m 14 ls []) := by
    intro n14
    induction n14 with
    | zero =>
      intro H locs τ x2 x3 x4 ls hP hS hl hf
      rw [fX7_mendUpwards_14] at hf
      cases hf
    | succ n14 ih14 =>
      skip
      have blk77 : ∀ (H : Heap) (locs : List Loc) (τ : Tau) (x2 : Int32) (x3 : Int32) (x4 : Int32) (x5 : Int32) (y1 : Int32) (y3 : Int32) (y4 : Int32) (ls : Array Slot), va_P D vwCl (cw cI cT cM ad (u3 σ i τ)) H → va_S (gA 167 ad) s.heap H locs → lv_has ls 6 [(0, .ref (ad (10 * i))), (2, .int x2), (3, .int x3), (4, .int x4), (5, .int x5)] → fX7_mendUpwards_77 F (fun τ x2 x3 x4 => fX7_mendUpwards_14 F n14 τ x2 x3 x4) τ x2 x3 x4 x5 y1 y3 y4 = some res → W p l e rX7_mendUpwards s m args below meth c H locs 0 0 Q (F0 m 77 ls [.int y4, .int y3, .ref (ad (10 * i + 1)), .int y1, .ref (ad (10 * i + 1))]) := by
        intro H locs τ x2 x3 x4 x5 y1 y3 y4 ls hP hS hl hf
        unfold fX7_mendUpwards_77 at hf
        obtain ⟨q9, hq9, hf⟩ := obE hf
        refine ct_cVi (rest := [.int y1, .ref (ad (10 * i + 1))]) (tX4_childOf hD hi hq9) hx hb hml hown ht hX hP hS wX4_childOf kML_RX7_85 rfl rfl ⟨Nat.le_of_ble_eq_true rfl, Nat.le_of_ble_eq_true rfl⟩ (va_recv hX.1 hP rfl (ct_nodes hi)) rfl hl.1 rfl (Nat.le_of_ble_eq_true rfl) dX7_mendUpwards_77 (fun H locs hP hS => ?_)
        obtain ⟨q10, hq10, hf⟩ := obE hf
        refine ct_cVi (rest := []) (tX4_step hD hi hq10) hx hb hml hown ht hX hP hS wX4_step kML_RX7_82 rfl rfl ⟨Nat.le_of_ble_eq_true rfl, Nat.le_of_ble_eq_true rfl⟩ (va_recv hX.1 hP rfl (ct_nodes hi)) rfl hl.1 rfl (Nat.le_of_ble_eq_true rfl) dX7_mendUpwards_80 (fun H locs hP hS => ?_)
        refine lv_iconst (v := (1 : Int32)) hx hb dX7_mendUpwards_83 (by decide) ?_
        refine lv_icmp_eq (tgt := 96) hx hb dX7_mendUpwards_84 (by decide) (fun hc11 => ?_) (fun hc11 => ?_)
        · rw [if_pos hc11] at hf
          refine lv_aload_n hx hb dX7_mendUpwards_96 rfl (lv_at hl 0 rfl) ?_
          refine lv_iload_n hx hb dX7_mendUpwards_97 rfl (lv_at hl 2 rfl) ?_
          obtain ⟨q12, hq12, hf⟩ := obE hf
          refine ct_cVv (rest := []) (tX7_promote hD hi hq12) hx hb hml hown ht hX hP hS wX7_promote kML_RX7_93 rfl rfl ⟨Nat.le_of_ble_eq_true rfl, Nat.le_of_ble_eq_true rfl⟩ (va_recv hX.1 hP rfl (cw_tree (i := i) hi)) rfl hl.1 rfl (Nat.le_of_ble_eq_true rfl) dX7_mendUpwards_98 (fun H locs hP hS => ?_)
          refine lv_iload_n hx hb dX7_mendUpwards_101 rfl (lv_at hl 2 rfl) ?_
          refine lv_istore_n (lv' := [(2, .int x3), (0, .ref (ad (10 * i))), (3, .int x3), (4, .int x4), (5, .int x5)]) hx hb dX7_mendUpwards_102 rfl hl (by decide) rfl (fun ls hl => ?_)
          refine lv_aload_n hx hb dX7_mendUpwards_103 rfl (lv_at hl 1 rfl) ?_
          refine va_get (ci := 5) (v := .ref (ad (10 * i + 1))) hx hb ht i_X7 hown hX.1 hP (10 * i) (cw_tree (i := i) hi) rfl 0 (by decide) (ht _ kFL_RX7_12) (fun _ h9 => h9) rfl dX7_mendUpwards_104 ?_
          refine lv_iload_n hx hb dX7_mendUpwards_107 rfl (lv_at hl 0 rfl) ?_
          obtain ⟨q13, hq13, hf⟩ := obE hf
          refine ct_cVi (rest := []) (tX4_parentOf hD hi hq13) hx hb hml hown ht hX hP hS wX4_parentOf kML_RX7_63 rfl rfl ⟨Nat.le_of_ble_eq_true rfl, Nat.le_of_ble_eq_true rfl⟩ (va_recv hX.1 hP rfl (ct_nodes hi)) rfl hl.1 rfl (Nat.le_of_ble_eq_true rfl) dX7_mendUpwards_108 (fun H locs hP hS => ?_)
          refine lv_istore_n (lv' := [(3, .int q13), (2, .int x3), (0, .ref (ad (10 * i))), (4, .int x4), (5, .int x5)]) hx hb dX7_mendUpwards_111 rfl hl (by decide) rfl (fun ls hl => ?_)
          refine lv_iinc (v := x4 + (1 : Int32)) (lv' := [(4, .int (x4 + (1 : Int32))), (3, .int q13), (2, .int x3), (0, .ref (ad (10 * i))), (5, .int x5)]) hx hb dX7_mendUpwards_112 hl (k := 3) rfl rfl (by decide) rfl (fun ls hl => ?_)
          refine lv_goto (tgt := 14) hx hb dX7_mendUpwards_115 (by decide) ?_
          exact ih14 _ _ q12 x3 q13 (x4 + (1 : Int32)) ls hP hS (lv_sub hl [3, 2, 1, 0] rfl) hf
        · rw [if_neg hc11] at hf
          refine lv_aload_n hx hb dX7_mendUpwards_87 rfl (lv_at hl 0 rfl) ?_
          refine lv_iload_n hx hb dX7_mendUpwards_88 rfl (lv_at hl 2 rfl) ?_
          refine lv_iload_n hx hb dX7_mendUpwards_89 rfl (lv_at hl 1 rfl) ?_
          refine lv_iload hx hb dX7_mendUpwards_90 (lv_at hl 4 rfl) ?_
          obtain ⟨q14, hq14, hf⟩ := obE hf
          refine ct_cVv (rest := []) (tX7_turnAfterAdding hD hi hq14) hx hb hml hown ht hX hP hS wX7_turnAfterAdding kML_RX7_89 rfl rfl ⟨Nat.le_of_ble_eq_true rfl, Nat.le_of_ble_eq_true rfl⟩ (va_recv hX.1 hP rfl (cw_tree (i := i) hi)) rfl hl.1 rfl (Nat.le_of_ble_eq_true rfl) dX7_mendUpwards_92 (fun H locs hP hS => ?_)
          have e0 := Option.some.inj hf
          subst e0
          exact hret _ _ _ _ hP hS dX7_mendUpwards_95
      have blk55 : ∀ (H : Heap) (locs : List Loc) (τ : Tau) (x2 : Int32) (x3 : Int32) (x4 : Int32) (y0 : Int32) (ls : Array Slot), va_P D vwCl (cw cI cT cM ad (u3 σ i τ)) H → va_S (gA 167 ad) s.heap H locs → lv_has ls 6 [(0, .ref (ad (10 * i))), (2, .int x2), (3, .int x3), (4, .int x4)] → fX7_mendUpwards_55 F (fun τ x2 x3 x4 => fX7_mendUpwards_14 F n14 τ x2 x3 x4) τ x2 x3 x4 y0 = some res → W p l e rX7_mendUpwards s m args below meth c H locs 0 0 Q (F0 m 55 ls [.int y0]) := by
        intro H locs τ x2 x3 x4 y0 ls hP hS hl hf
        unfold fX7_mendUpwards_55 at hf
        refine lv_istore (lv' := [(5, .int y0), (0, .ref (ad (10 * i))), (2, .int x2), (3, .int x3), (4, .int x4)]) hx hb dX7_mendUpwards_55 hl (by decide) rfl (fun ls hl => ?_)
        refine lv_aload_n hx hb dX7_mendUpwards_57 rfl (lv_at hl 1 rfl) ?_
        refine va_get (ci := 5) (v := .ref (ad (10 * i + 1))) hx hb ht i_X7 hown hX.1 hP (10 * i) (cw_tree (i := i) hi) rfl 0 (by decide) (ht _ kFL_RX7_12) (fun _ h9 => h9) rfl dX7_mendUpwards_58 ?_
        refine lv_iload_n hx hb dX7_mendUpwards_61 rfl (lv_at hl 3 rfl) ?_
        refine lv_aload_n hx hb dX7_mendUpwards_62 rfl (lv_at hl 1 rfl) ?_
        refine va_get (ci := 5) (v := .ref (ad (10 * i + 1))) hx hb ht i_X7 hown hX.1 hP (10 * i) (cw_tree (i := i) hi) rfl 0 (by decide) (ht _ kFL_RX7_12) (fun _ h9 => h9) rfl dX7_mendUpwards_63 ?_
        refine lv_iload_n hx hb dX7_mendUpwards_66 rfl (lv_at hl 3 rfl) ?_
        refine lv_iload hx hb dX7_mendUpwards_67 (lv_at hl 0 rfl) ?_
        refine lv_if_ne (tgt := 76) hx hb dX7_mendUpwards_69 (by decide) (fun hc8 => ?_) (fun hc8 => ?_)
        · rw [if_neg hc8] at hf
          refine lv_iconst (v := (0 : Int32)) hx hb dX7_mendUpwards_76 (by decide) ?_
          exact blk77 _ _ τ x2 x3 x4 y0 x3 x3 (0 : Int32) ls hP hS (lv_sub hl [1, 2, 3, 4, 0] rfl) hf
        · rw [if_pos hc8] at hf
          refine lv_iconst (v := (1 : Int32)) hx hb dX7_mendUpwards_72 (by decide) ?_
          refine lv_goto (tgt := 77) hx hb dX7_mendUpwards_73 (by decide) ?_
          exact blk77 _ _ τ x2 x3 x4 y0 x3 x3 (1 : Int32) ls hP hS (lv_sub hl [1, 2, 3, 4, 0] rfl) hf
      intro H locs τ x2 x3 x4 ls hP hS hl hf
      rw [fX7_mendUpwards_14] at hf
      refine lv_iload hx hb dX7_mendUpwards_14 (lv_at hl 3 rfl) ?_
      refine lv_bipush (v := (60 : Int32)) hx hb dX7_mendUpwards_16 (by decide) ?_
      refine lv_icmp_ge (tgt := 118) hx hb dX7_mendUpwards_18 (by decide) (fun hc2 => ?_) (fun hc2 => ?_)
      · rw [if_pos hc2] at hf
        have e0 := Option.some.inj hf
        subst e0
        exact hret _ _ _ _ hP hS dX7_mendUpwards_118
      · rw [if_neg hc2] at hf
        refine lv_iload_n hx hb dX7_mendUpwards_21 rfl (lv_at hl 2 rfl) ?_
        refine lv_iconst (v := (-1 : Int32)) hx hb dX7_mendUpwards_22 (by decide) ?_
        refine lv_icmp_eq (tgt := 118) hx hb dX7_mendUpwards_23 (by decide) (fun hc3 => ?_) (fun hc3 => ?_)
        · rw [if_pos hc3] at hf
          have e0 := Option.some.inj hf
          subst e0
          exact hret _ _ _ _ hP hS dX7_mendUpwards_118
        · rw [if_neg hc3] at hf
          refine lv_aload_n hx hb dX7_mendUpwards_26 rfl (lv_at hl 0 rfl) ?_
          refine va_get (ci := 5) (v := .ref (ad (10 * i + 1))) hx hb ht i_X7 hown hX.1 hP (10 * i) (cw_tree (i := i) hi) rfl 0 (by decide) (ht _ kFL_RX7_12) (fun _ h9 => h9) rfl dX7_mendUpwards_27 ?_
          refine lv_iload_n hx hb dX7_mendUpwards_30 rfl (lv_at hl 2 rfl) ?_
          refine lv_iload_n hx hb dX7_mendUpwards_31 rfl (lv_at hl 1 rfl) ?_
          obtain ⟨q4, hq4, hf⟩ := obE hf
          refine ct_cVi (rest := []) (tX4_step hD hi hq4) hx hb hml hown ht hX hP hS wX4_step kML_RX7_82 rfl rfl ⟨Nat.le_of_ble_eq_true rfl, Nat.le_of_ble_eq_true rfl⟩ (va_recv hX.1 hP rfl (ct_nodes hi)) rfl hl.1 rfl (Nat.le_of_ble_eq_true rfl) dX7_mendUpwards_32 (fun H locs hP hS => ?_)
          refine lv_if_ne (tgt := 118) hx hb dX7_mendUpwards_35 (by decide) (fun hc5 => ?_) (fun hc5 => ?_)
          · rw [if_neg hc5] at hf
            have e0 := Option.some.inj hf
            subst e0
            exact hret _ _ _ _ hP hS dX7_mendUpwards_118
          · rw [if_pos hc5] at hf
            refine lv_aload_n hx hb dX7_mendUpwards_38 rfl (lv_at hl 0 rfl) ?_
            refine va_get (ci := 5) (v := .ref (ad (10 * i + 1))) hx hb ht i_X7 hown hX.1 hP (10 * i) (cw_tree (i := i) hi) rfl 0 (by decide) (ht _ kFL_RX7_12) (fun _ h9 => h9) rfl dX7_mendUpwards_39 ?_
            refine lv_iload_n hx hb dX7_mendUpwards_42 rfl (lv_at hl 2 rfl) ?_
            obtain ⟨q6, hq6, hf⟩ := obE hf
            refine ct_cVi (rest := []) (tX4_leftOf hD hi hq6) hx hb hml hown ht hX hP hS wX4_leftOf kML_RX7_49 rfl rfl ⟨Nat.le_of_ble_eq_true rfl, Nat.le_of_ble_eq_true rfl⟩ (va_recv hX.1 hP rfl (ct_nodes hi)) rfl hl.1 rfl (Nat.le_of_ble_eq_true rfl) dX7_mendUpwards_43 (fun H locs hP hS => ?_)
            refine lv_iload_n hx hb dX7_mendUpwards_46 rfl (lv_at hl 1 rfl) ?_
            refine lv_icmp_ne (tgt := 54) hx hb dX7_mendUpwards_47 (by decide) (fun hc7 => ?_) (fun hc7 => ?_)
            · rw [if_neg hc7] at hf
              refine lv_iconst (v := (0 : Int32)) hx hb dX7_mendUpwards_54 (by decide) ?_
              exact blk55 _ _ τ x2 x3 x4 (0 : Int32) ls hP hS (lv_sub hl [0, 1, 2, 3] rfl) hf
            · rw [if_pos hc7] at hf
              refine lv_iconst (v := (1 : Int32)) hx hb dX7_mendUpwards_50 (by decide) ?_
              refine lv_goto (tgt := 55) hx hb dX7_mendUpwards_51 (by decide) ?_
              exact blk55 _ _ τ x2 x3 x4 (1 : Int32) ls hP hS (lv_sub hl [0, 1, 2, 3] rfl) hf
  unfold fX7_mendUpwards at hf
  refine lv_iload_n hx hb dX7_mendUpwards_0 rfl (lv_at hl 1 rfl) ?_
  refine lv_istore_n (lv' := [(2, .int x1), (0, .ref (ad (10 * i))), (1, .int x1)]) hx hb dX7_mendUpwards_1 rfl hl (by decide) rfl (fun ls hl => ?_)
  refine lv_aload_n hx hb dX7_mendUpwards_2 rfl (lv_at hl 1 rfl) ?_
  refine va_get (ci := 5) (v := .ref (ad (10 * i + 1))) hx hb ht i_X7 hown hX.1 hP (10 * i) (cw_tree (i := i) hi) rfl 0 (by decide) (ht _ kFL_RX7_12) (fun _ h9 => h9) rfl dX7_mendUpwards_3 ?_
  refine lv_iload_n hx hb dX7_mendUpwards_6 rfl (lv_at hl 0 rfl) ?_
  obtain ⟨q1, hq1, hf⟩ := obE hf
  refine ct_cVi (rest := []) (tX4_parentOf hD hi hq1) hx hb hml hown ht hX hP hS wX4_parentOf kML_RX7_63 rfl rfl ⟨Nat.le_of_ble_eq_true rfl, Nat.le_of_ble_eq_true rfl⟩ (va_recv hX.1 hP rfl (ct_nodes hi)) rfl hl.1 rfl (Nat.le_of_ble_eq_true rfl) dX7_mendUpwards_7 (fun H locs hP hS => ?_)
  refine lv_istore_n (lv' := [(3, .int q1), (2, .int x1), (0, .ref (ad (10 * i))), (1, .int x1)]) hx hb dX7_mendUpwards_10 rfl hl (by decide) rfl (fun ls hl => ?_)
  refine lv_iconst (v := (0 : Int32)) hx hb dX7_mendUpwards_11 (by decide) ?_
  refine lv_istore (lv' := [(4, .int ((0 : Int32))), (3, .int q1), (2, .int x1), (0, .ref (ad (10 * i))), (1, .int x1)]) hx hb dX7_mendUpwards_12 hl (by decide) rfl (fun ls hl => ?_)
  exact blk14 F _ _ τ x1 q1 (0 : Int32) ls hP hS (lv_sub hl [3, 2, 1, 0] rfl) hf
def fX7_add (F : Nat) (τ : Tau) (x1 : Int32) (x2 : Int32) : Option (Tau) := (fX1_clear F τ 8).bind fun q1 => ((fX4_hangNew F q1 x1 x2).bind fun q2 => ((fX7_mendUpwards F q2.2 q2.1).bind fun q3 => ((fX1_add F q3 7 8).bind fun q4 => (some q4))))
abbrev rX7_add : Room := { frames := 4, cells := 0, slots := 0, locals := 97 }
theorem wX7_add : kV yX7_add cX7_add 3 none 2 := ⟨kCO_yX7_add, kIM_yX7_add, kSE_yX7_add, kIN_RX7, by decide +kernel, by decide +kernel, by decide +kernel⟩
set_option maxHeartbeats 4000000 in
set_option maxRecDepth 100000 in
theorem tX7_add {l : Launch} {D : va_G} {cI cT cM : ClassId} {ad : Nat → Nat} (hD : gInj 167 ad) {F : Nat} {σ : Sig} {i : Nat} (hi : i < 16) {τ : Tau} {x1 : Int32} {x2 : Int32} {res : Tau} (hf : fX7_add F τ x1 x2 = some res) : CTv l yX7_add cX7_add 3 rX7_add D (cTy cI cT cM) (gA 167 ad) [.ref (ad (10 * i)), .int x1, .int x2] (cw cI cT cM ad (u3 σ i τ)) (cw cI cT cM ad (u3 σ i res)) := by
  refine ct_void (by decide) (Nat.le_of_ble_eq_true rfl) ?_
  intro p e s m args below meth c Q ls hx hb hml hown ht hX hret hP hS hl
  have hl : lv_has ls 3 [(0, .ref (ad (10 * i))), (1, .int x1), (2, .int x2)] := hl
  unfold fX7_add at hf
  refine lv_aload_n hx hb dX7_add_0 rfl (lv_at hl 0 rfl) ?_
  refine va_get (ci := 5) (v := .ref (ad (10 * i + (1 + 8)))) hx hb ht i_X7 hown hX.1 hP (10 * i) (cw_tree (i := i) hi) rfl 2 (by decide) (ht _ kFL_RX7_25) (fun _ h9 => h9) rfl dX7_add_1 ?_
  obtain ⟨q1, hq1, hf⟩ := obE hf
  refine ct_cVv (rest := []) (tX1_clear hD hi (Or.inr rfl) hq1) hx hb hml hown ht hX hP hS wX1_clear kML_RX7_35 rfl rfl ⟨Nat.le_of_ble_eq_true rfl, Nat.le_of_ble_eq_true rfl⟩ (va_recv hX.1 hP rfl (ct_cnt hi (Or.inr rfl))) rfl hl.1 rfl (Nat.le_of_ble_eq_true rfl) dX7_add_4 (fun H locs hP hS => ?_)
  refine lv_aload_n hx hb dX7_add_7 rfl (lv_at hl 0 rfl) ?_
  refine lv_aload_n hx hb dX7_add_8 rfl (lv_at hl 0 rfl) ?_
  refine va_get (ci := 5) (v := .ref (ad (10 * i + 1))) hx hb ht i_X7 hown hX.1 hP (10 * i) (cw_tree (i := i) hi) rfl 0 (by decide) (ht _ kFL_RX7_12) (fun _ h9 => h9) rfl dX7_add_9 ?_
  refine lv_iload_n hx hb dX7_add_12 rfl (lv_at hl 1 rfl) ?_
  refine lv_iload_n hx hb dX7_add_13 rfl (lv_at hl 2 rfl) ?_
  obtain ⟨q2, hq2, hf⟩ := obE hf
  refine ct_cVi (rest := [.ref (ad (10 * i))]) (tX4_hangNew hD hi hq2) hx hb hml hown ht hX hP hS wX4_hangNew kML_RX7_38 rfl rfl ⟨Nat.le_of_ble_eq_true rfl, Nat.le_of_ble_eq_true rfl⟩ (va_recv hX.1 hP rfl (ct_nodes hi)) rfl hl.1 rfl (Nat.le_of_ble_eq_true rfl) dX7_add_14 (fun H locs hP hS => ?_)
  obtain ⟨q3, hq3, hf⟩ := obE hf
  refine ct_cVv (rest := []) (tX7_mendUpwards hD hi hq3) hx hb hml hown ht hX hP hS wX7_mendUpwards kML_RX7_42 rfl rfl ⟨Nat.le_of_ble_eq_true rfl, Nat.le_of_ble_eq_true rfl⟩ (va_recv hX.1 hP rfl (cw_tree (i := i) hi)) rfl hl.1 rfl (Nat.le_of_ble_eq_true rfl) dX7_add_17 (fun H locs hP hS => ?_)
  refine lv_aload_n hx hb dX7_add_20 rfl (lv_at hl 0 rfl) ?_
  refine va_get (ci := 5) (v := .ref (ad (10 * i + (1 + 7)))) hx hb ht i_X7 hown hX.1 hP (10 * i) (cw_tree (i := i) hi) rfl 1 (by decide) (ht _ kFL_RX7_21) (fun _ h9 => h9) rfl dX7_add_21 ?_
  refine lv_aload_n hx hb dX7_add_24 rfl (lv_at hl 0 rfl) ?_
  refine va_get (ci := 5) (v := .ref (ad (10 * i + (1 + 8)))) hx hb ht i_X7 hown hX.1 hP (10 * i) (cw_tree (i := i) hi) rfl 2 (by decide) (ht _ kFL_RX7_25) (fun _ h9 => h9) rfl dX7_add_25 ?_
  obtain ⟨q4, hq4, hf⟩ := obE hf
  refine ct_cVv (rest := []) (tX1_add hD hi (Or.inl rfl) (Or.inr rfl) hq4) hx hb hml hown ht hX hP hS wX1_add kML_RX7_46 rfl rfl ⟨Nat.le_of_ble_eq_true rfl, Nat.le_of_ble_eq_true rfl⟩ (va_recv hX.1 hP rfl (ct_cnt hi (Or.inl rfl))) rfl hl.1 rfl (Nat.le_of_ble_eq_true rfl) dX7_add_28 (fun H locs hP hS => ?_)
  have e0 := Option.some.inj hf
  subst e0
  exact hret _ _ _ _ hP hS dX7_add_31
def fX7_demote (F : Nat) (τ : Tau) (x1 : Int32) : Option (Tau) := (fX4_addRank F τ x1 (-1 : Int32)).bind fun q1 => (some (u2 q1 8 1 ((q1 8 1) + (1 : Int32))))
abbrev rX7_demote : Room := { frames := 1, cells := 0, slots := 0, locals := 22 }
theorem wX7_demote : kV yX7_demote cX7_demote 2 none 1 := ⟨kCO_yX7_demote, kIM_yX7_demote, kSE_yX7_demote, kIN_RX7, by decide +kernel, by decide +kernel, by decide +kernel⟩
set_option maxHeartbeats 4000000 in
set_option maxRecDepth 100000 in
theorem tX7_demote {l : Launch} {D : va_G} {cI cT cM : ClassId} {ad : Nat → Nat} (hD : gInj 167 ad) {F : Nat} {σ : Sig} {i : Nat} (hi : i < 16) {τ : Tau} {x1 : Int32} {res : Tau} (hf : fX7_demote F τ x1 = some res) : CTv l yX7_demote cX7_demote 2 rX7_demote D (cTy cI cT cM) (gA 167 ad) [.ref (ad (10 * i)), .int x1] (cw cI cT cM ad (u3 σ i τ)) (cw cI cT cM ad (u3 σ i res)) := by
  refine ct_void (by decide) (Nat.le_of_ble_eq_true rfl) ?_
  intro p e s m args below meth c Q ls hx hb hml hown ht hX hret hP hS hl
  have hl : lv_has ls 2 [(0, .ref (ad (10 * i))), (1, .int x1)] := hl
  unfold fX7_demote at hf
  refine lv_aload_n hx hb dX7_demote_0 rfl (lv_at hl 0 rfl) ?_
  refine va_get (ci := 5) (v := .ref (ad (10 * i + 1))) hx hb ht i_X7 hown hX.1 hP (10 * i) (cw_tree (i := i) hi) rfl 0 (by decide) (ht _ kFL_RX7_12) (fun _ h9 => h9) rfl dX7_demote_1 ?_
  refine lv_iload_n hx hb dX7_demote_4 rfl (lv_at hl 1 rfl) ?_
  refine lv_iconst (v := (-1 : Int32)) hx hb dX7_demote_5 (by decide) ?_
  obtain ⟨q1, hq1, hf⟩ := obE hf
  refine ct_cVv (rest := []) (tX4_addRank hD hi hq1) hx hb hml hown ht hX hP hS wX4_addRank kML_RX7_103 rfl rfl ⟨Nat.le_of_ble_eq_true rfl, Nat.le_of_ble_eq_true rfl⟩ (va_recv hX.1 hP rfl (ct_nodes hi)) rfl hl.1 rfl (Nat.le_of_ble_eq_true rfl) dX7_demote_6 (fun H locs hP hS => ?_)
  refine lv_aload_n hx hb dX7_demote_9 rfl (lv_at hl 0 rfl) ?_
  refine va_get (ci := 5) (v := .ref (ad (10 * i + (1 + 8)))) hx hb ht i_X7 hown hX.1 hP (10 * i) (cw_tree (i := i) hi) rfl 2 (by decide) (ht _ kFL_RX7_25) (fun _ h9 => h9) rfl dX7_demote_10 ?_
  refine lv_dup hx hb dX7_demote_13 rfl ?_
  refine va_get (ci := 0) (v := .int (q1 8 1)) hx hb ht i_X1 hown hX.1 hP (10 * i + (1 + 8)) (ct_cnt hi (Or.inr rfl)) rfl 1 (by decide) (ht _ kFL_RX7_115) (fun _ h9 => h9) rfl dX7_demote_14 ?_
  refine lv_iconst (v := (1 : Int32)) hx hb dX7_demote_17 (by decide) ?_
  refine lv_iadd hx hb dX7_demote_18 ?_
  refine cr_putC hD hx hb ht hown hX hP hS hi (Or.inr rfl) (Or.inr (Or.inl ⟨rfl, rfl⟩)) kFL_RX7_115 dX7_demote_19 (fun H locs hP hS => ?_)
  have e0 := Option.some.inj hf
  subst e0
  exact hret _ _ _ _ hP hS dX7_demote_22
def fX7_hasOnlyLongSteps (F : Nat) (τ : Tau) (x1 : Int32) : Option (Int32) := (fX4_leftOf F τ x1).bind fun q1 => ((fX4_step F τ x1 q1).bind fun q2 => (if q2 = (2 : Int32) then ((fX4_rightOf F τ x1).bind fun q4 => ((fX4_step F τ x1 q4).bind fun q5 => (if q5 = (2 : Int32) then (some (1 : Int32)) else (some (0 : Int32))))) else (some (0 : Int32))))
abbrev rX7_hasOnlyLongSteps : Room := { frames := 2, cells := 0, slots := 0, locals := 43 }
theorem wX7_hasOnlyLongSteps : kV yX7_hasOnlyLongSteps cX7_hasOnlyLongSteps 2 (some .boolean) 1 := ⟨kCO_yX7_hasOnlyLongSteps, kIM_yX7_hasOnlyLongSteps, kSE_yX7_hasOnlyLongSteps, kIN_RX7, by decide +kernel, by decide +kernel, by decide +kernel⟩
set_option maxHeartbeats 4000000 in
set_option maxRecDepth 100000 in
theorem tX7_hasOnlyLongSteps {l : Launch} {D : va_G} {cI cT cM : ClassId} {ad : Nat → Nat} (hD : gInj 167 ad) {F : Nat} {σ : Sig} {i : Nat} (hi : i < 16) {τ : Tau} {x1 : Int32} {res : Int32} (hf : fX7_hasOnlyLongSteps F τ x1 = some res) : CTi l yX7_hasOnlyLongSteps cX7_hasOnlyLongSteps 2 .boolean rX7_hasOnlyLongSteps D (cTy cI cT cM) (gA 167 ad) [.ref (ad (10 * i)), .int x1] (cw cI cT cM ad (u3 σ i τ)) res (cw cI cT cM ad (u3 σ i τ)) := by
  refine ct_bool (by decide) (Nat.le_of_ble_eq_true rfl) ?_
  intro p e s m args below meth c Q ls hx hb hml hown ht hX hret hP hS hl
  have hl : lv_has ls 2 [(0, .ref (ad (10 * i))), (1, .int x1)] := hl
  unfold fX7_hasOnlyLongSteps at hf
  refine lv_aload_n hx hb dX7_hasOnlyLongSteps_0 rfl (lv_at hl 0 rfl) ?_
  refine va_get (ci := 5) (v := .ref (ad (10 * i + 1))) hx hb ht i_X7 hown hX.1 hP (10 * i) (cw_tree (i := i) hi) rfl 0 (by decide) (ht _ kFL_RX7_12) (fun _ h9 => h9) rfl dX7_hasOnlyLongSteps_1 ?_
  refine lv_iload_n hx hb dX7_hasOnlyLongSteps_4 rfl (lv_at hl 1 rfl) ?_
  refine lv_aload_n hx hb dX7_hasOnlyLongSteps_5 rfl (lv_at hl 0 rfl) ?_
  refine va_get (ci := 5) (v := .ref (ad (10 * i + 1))) hx hb ht i_X7 hown hX.1 hP (10 * i) (cw_tree (i := i) hi) rfl 0 (by decide) (ht _ kFL_RX7_12) (fun _ h9 => h9) rfl dX7_hasOnlyLongSteps_6 ?_
  refine lv_iload_n hx hb dX7_hasOnlyLongSteps_9 rfl (lv_at hl 1 rfl) ?_
  obtain ⟨q1, hq1, hf⟩ := obE hf
  refine ct_cVi (rest := [.int x1, .ref (ad (10 * i + 1))]) (tX4_leftOf hD hi hq1) hx hb hml hown ht hX hP hS wX4_leftOf kML_RX7_49 rfl rfl ⟨Nat.le_of_ble_eq_true rfl, Nat.le_of_ble_eq_true rfl⟩ (va_recv hX.1 hP rfl (ct_nodes hi)) rfl hl.1 rfl (Nat.le_of_ble_eq_true rfl) dX7_hasOnlyLongSteps_10 (fun H locs hP hS => ?_)
  obtain ⟨q2, hq2, hf⟩ := obE hf
  refine ct_cVi (rest := []) (tX4_step hD hi hq2) hx hb hml hown ht hX hP hS wX4_step kML_RX7_82 rfl rfl ⟨Nat.le_of_ble_eq_true rfl, Nat.le_of_ble_eq_true rfl⟩ (va_recv hX.1 hP rfl (ct_nodes hi)) rfl hl.1 rfl (Nat.le_of_ble_eq_true rfl) dX7_hasOnlyLongSteps_13 (fun H locs hP hS => ?_)
  refine lv_iconst (v := (2 : Int32)) hx hb dX7_hasOnlyLongSteps_16 (by decide) ?_
  refine lv_icmp_ne (tgt := 44) hx hb dX7_hasOnlyLongSteps_17 (by decide) (fun hc3 => ?_) (fun hc3 => ?_)
  · rw [if_neg hc3] at hf
    refine lv_iconst (v := (0 : Int32)) hx hb dX7_hasOnlyLongSteps_44 (by decide) ?_
    have e0 := Option.some.inj hf
    subst e0
    exact hret _ _ _ _ (Or.inl rfl) hP hS dX7_hasOnlyLongSteps_45
  · rw [if_pos hc3] at hf
    refine lv_aload_n hx hb dX7_hasOnlyLongSteps_20 rfl (lv_at hl 0 rfl) ?_
    refine va_get (ci := 5) (v := .ref (ad (10 * i + 1))) hx hb ht i_X7 hown hX.1 hP (10 * i) (cw_tree (i := i) hi) rfl 0 (by decide) (ht _ kFL_RX7_12) (fun _ h9 => h9) rfl dX7_hasOnlyLongSteps_21 ?_
    refine lv_iload_n hx hb dX7_hasOnlyLongSteps_24 rfl (lv_at hl 1 rfl) ?_
    refine lv_aload_n hx hb dX7_hasOnlyLongSteps_25 rfl (lv_at hl 0 rfl) ?_
    refine va_get (ci := 5) (v := .ref (ad (10 * i + 1))) hx hb ht i_X7 hown hX.1 hP (10 * i) (cw_tree (i := i) hi) rfl 0 (by decide) (ht _ kFL_RX7_12) (fun _ h9 => h9) rfl dX7_hasOnlyLongSteps_26 ?_
    refine lv_iload_n hx hb dX7_hasOnlyLongSteps_29 rfl (lv_at hl 1 rfl) ?_
    obtain ⟨q4, hq4, hf⟩ := obE hf
    refine ct_cVi (rest := [.int x1, .ref (ad (10 * i + 1))]) (tX4_rightOf hD hi hq4) hx hb hml hown ht hX hP hS wX4_rightOf kML_RX7_53 rfl rfl ⟨Nat.le_of_ble_eq_true rfl, Nat.le_of_ble_eq_true rfl⟩ (va_recv hX.1 hP rfl (ct_nodes hi)) rfl hl.1 rfl (Nat.le_of_ble_eq_true rfl) dX7_hasOnlyLongSteps_30 (fun H locs hP hS => ?_)
    obtain ⟨q5, hq5, hf⟩ := obE hf
    refine ct_cVi (rest := []) (tX4_step hD hi hq5) hx hb hml hown ht hX hP hS wX4_step kML_RX7_82 rfl rfl ⟨Nat.le_of_ble_eq_true rfl, Nat.le_of_ble_eq_true rfl⟩ (va_recv hX.1 hP rfl (ct_nodes hi)) rfl hl.1 rfl (Nat.le_of_ble_eq_true rfl) dX7_hasOnlyLongSteps_33 (fun H locs hP hS => ?_)
    refine lv_iconst (v := (2 : Int32)) hx hb dX7_hasOnlyLongSteps_36 (by decide) ?_
    refine lv_icmp_ne (tgt := 44) hx hb dX7_hasOnlyLongSteps_37 (by decide) (fun hc6 => ?_) (fun hc6 => ?_)
    · rw [if_neg hc6] at hf
      refine lv_iconst (v := (0 : Int32)) hx hb dX7_hasOnlyLongSteps_44 (by decide) ?_
      have e0 := Option.some.inj hf
      subst e0
      exact hret _ _ _ _ (Or.inl rfl) hP hS dX7_hasOnlyLongSteps_45
    · rw [if_pos hc6] at hf
      refine lv_iconst (v := (1 : Int32)) hx hb dX7_hasOnlyLongSteps_40 (by decide) ?_
      refine lv_goto (tgt := 45) hx hb dX7_hasOnlyLongSteps_41 (by decide) ?_
      have e0 := Option.some.inj hf
      subst e0
      exact hret _ _ _ _ (Or.inr rfl) hP hS dX7_hasOnlyLongSteps_45
def fX7_turnAfterRemoving_91 (F : Nat) (τ : Tau) (x1 : Int32) (x2 : Int32) (y1 : Int32) (y2 : Int32) : Option (Tau) := (fX4_childOf F τ y1 y2).bind fun q11 => ((fX4_turnOverParent F τ q11).bind fun q12 => ((fX4_turnOverParent F q12 q11).bind fun q13 => ((fX4_addRank F (u2 q13 8 2 ((q13 8 2) + (2 : Int32))) q11 (2 : Int32)).bind fun q14 => ((fX4_addRank F q14 x2 (-1 : Int32)).bind fun q15 => ((fX4_addRank F q15 x1 (-2 : Int32)).bind fun q16 => (some q16))))))
def fX7_turnAfterRemoving (F : Nat) (τ : Tau) (x1 : Int32) (x2 : Int32) (x3 : Int32) : Option (Tau) := (fX4_childOf F τ x2 x3).bind fun q1 => ((fX4_step F τ x2 q1).bind fun q2 => (if q2 = (1 : Int32) then ((fX4_turnOverParent F τ x2).bind fun q5 => ((fX4_addRank F (u2 q5 8 2 ((q5 8 2) + (1 : Int32))) x2 (1 : Int32)).bind fun q6 => ((fX4_isLeaf F q6 x1).bind fun q7 => (if q7 = 0 then ((fX4_addRank F q6 x1 (-1 : Int32)).bind fun q9 => (some q9)) else ((fX4_addRank F q6 x1 (-2 : Int32)).bind fun q10 => (some q10)))))) else (if x3 = 0 then (fX7_turnAfterRemoving_91 F τ x1 x2 x2 (1 : Int32)) else (fX7_turnAfterRemoving_91 F τ x1 x2 x2 (0 : Int32)))))
abbrev rX7_turnAfterRemoving : Room := { frames := 2, cells := 0, slots := 0, locals := 48 }
theorem wX7_turnAfterRemoving : kV yX7_turnAfterRemoving cX7_turnAfterRemoving 5 none 3 := ⟨kCO_yX7_turnAfterRemoving, kIM_yX7_turnAfterRemoving, kSE_yX7_turnAfterRemoving, kIN_RX7, by decide +kernel, by decide +kernel, by decide +kernel⟩
set_option maxHeartbeats 4000000 in
set_option maxRecDepth 100000 in
theorem tX7_turnAfterRemoving {l : Launch} {D : va_G} {cI cT cM : ClassId} {ad : Nat → Nat} (hD : gInj 167 ad) {F : Nat} {σ : Sig} {i : Nat} (hi : i < 16) {τ : Tau} {x1 : Int32} {x2 : Int32} {x3 : Int32} {res : Tau} (hf : fX7_turnAfterRemoving F τ x1 x2 x3 = some res) : CTv l yX7_turnAfterRemoving cX7_turnAfterRemoving 5 rX7_turnAfterRemoving D (cTy cI cT cM) (gA 167 ad) [.ref (ad (10 * i)), .int x1, .int x2, .int x3] (cw cI cT cM ad (u3 σ i τ)) (cw cI cT cM ad (u3 σ i res)) := by
  refine ct_void (by decide) (Nat.le_of_ble_eq_true rfl) ?_
  intro p e s m args below meth c Q ls hx hb hml hown ht hX hret hP hS hl
  have hl : lv_has ls 5 [(0, .ref (ad (10 * i))), (1, .int x1), (2, .int x2), (3, .int x3)] := hl
  have blk91 : ∀ (H : Heap) (locs : List Loc) (τ : Tau) (x1 : Int32) (x2 : Int32) (y1 : Int32) (y2 : Int32) (ls : Array Slot), va_P D vwCl (cw cI cT cM ad (u3 σ i τ)) H → va_S (gA 167 ad) s.heap H locs → lv_has ls 5 [(0, .ref (ad (10 * i))), (1, .int x1), (2, .int x2)] → fX7_turnAfterRemoving_91 F τ x1 x2 y1 y2 = some res → W p l e rX7_turnAfterRemoving s m args below meth c H locs 0 0 Q (F0 m 91 ls [.int y2, .int y1, .ref (ad (10 * i + 1))]) := by
    intro H locs τ x1 x2 y1 y2 ls hP hS hl hf
    unfold fX7_turnAfterRemoving_91 at hf
    obtain ⟨q11, hq11, hf⟩ := obE hf
    refine ct_cVi (rest := []) (tX4_childOf hD hi hq11) hx hb hml hown ht hX hP hS wX4_childOf kML_RX7_85 rfl rfl ⟨Nat.le_of_ble_eq_true rfl, Nat.le_of_ble_eq_true rfl⟩ (va_recv hX.1 hP rfl (ct_nodes hi)) rfl hl.1 rfl (Nat.le_of_ble_eq_true rfl) dX7_turnAfterRemoving_91 (fun H locs hP hS => ?_)
    refine lv_istore (lv' := [(4, .int q11), (0, .ref (ad (10 * i))), (1, .int x1), (2, .int x2)]) hx hb dX7_turnAfterRemoving_94 hl (by decide) rfl (fun ls hl => ?_)
    refine lv_aload_n hx hb dX7_turnAfterRemoving_96 rfl (lv_at hl 1 rfl) ?_
    refine va_get (ci := 5) (v := .ref (ad (10 * i + 1))) hx hb ht i_X7 hown hX.1 hP (10 * i) (cw_tree (i := i) hi) rfl 0 (by decide) (ht _ kFL_RX7_12) (fun _ h9 => h9) rfl dX7_turnAfterRemoving_97 ?_
    refine lv_iload hx hb dX7_turnAfterRemoving_100 (lv_at hl 0 rfl) ?_
    obtain ⟨q12, hq12, hf⟩ := obE hf
    refine ct_cVv (rest := []) (tX4_turnOverParent hD hi hq12) hx hb hml hown ht hX hP hS wX4_turnOverParent kML_RX7_96 rfl rfl ⟨Nat.le_of_ble_eq_true rfl, Nat.le_of_ble_eq_true rfl⟩ (va_recv hX.1 hP rfl (ct_nodes hi)) rfl hl.1 rfl (Nat.le_of_ble_eq_true rfl) dX7_turnAfterRemoving_102 (fun H locs hP hS => ?_)
    refine lv_aload_n hx hb dX7_turnAfterRemoving_105 rfl (lv_at hl 1 rfl) ?_
    refine va_get (ci := 5) (v := .ref (ad (10 * i + 1))) hx hb ht i_X7 hown hX.1 hP (10 * i) (cw_tree (i := i) hi) rfl 0 (by decide) (ht _ kFL_RX7_12) (fun _ h9 => h9) rfl dX7_turnAfterRemoving_106 ?_
    refine lv_iload hx hb dX7_turnAfterRemoving_109 (lv_at hl 0 rfl) ?_
    obtain ⟨q13, hq13, hf⟩ := obE hf
    refine ct_cVv (rest := []) (tX4_turnOverParent hD hi hq13) hx hb hml hown ht hX hP hS wX4_turnOverParent kML_RX7_96 rfl rfl ⟨Nat.le_of_ble_eq_true rfl, Nat.le_of_ble_eq_true rfl⟩ (va_recv hX.1 hP rfl (ct_nodes hi)) rfl hl.1 rfl (Nat.le_of_ble_eq_true rfl) dX7_turnAfterRemoving_111 (fun H locs hP hS => ?_)
    refine lv_aload_n hx hb dX7_turnAfterRemoving_114 rfl (lv_at hl 1 rfl) ?_
    refine va_get (ci := 5) (v := .ref (ad (10 * i + (1 + 8)))) hx hb ht i_X7 hown hX.1 hP (10 * i) (cw_tree (i := i) hi) rfl 2 (by decide) (ht _ kFL_RX7_25) (fun _ h9 => h9) rfl dX7_turnAfterRemoving_115 ?_
    refine lv_dup hx hb dX7_turnAfterRemoving_118 rfl ?_
    refine va_get (ci := 0) (v := .int (q13 8 2)) hx hb ht i_X1 hown hX.1 hP (10 * i + (1 + 8)) (ct_cnt hi (Or.inr rfl)) rfl 2 (by decide) (ht _ kFL_RX7_99) (fun _ h9 => h9) rfl dX7_turnAfterRemoving_119 ?_
    refine lv_iconst (v := (2 : Int32)) hx hb dX7_turnAfterRemoving_122 (by decide) ?_
    refine lv_iadd hx hb dX7_turnAfterRemoving_123 ?_
    refine cr_putC hD hx hb ht hown hX hP hS hi (Or.inr rfl) (Or.inr (Or.inr ⟨rfl, rfl⟩)) kFL_RX7_99 dX7_turnAfterRemoving_124 (fun H locs hP hS => ?_)
    refine lv_aload_n hx hb dX7_turnAfterRemoving_127 rfl (lv_at hl 1 rfl) ?_
    refine va_get (ci := 5) (v := .ref (ad (10 * i + 1))) hx hb ht i_X7 hown hX.1 hP (10 * i) (cw_tree (i := i) hi) rfl 0 (by decide) (ht _ kFL_RX7_12) (fun _ h9 => h9) rfl dX7_turnAfterRemoving_128 ?_
    refine lv_iload hx hb dX7_turnAfterRemoving_131 (lv_at hl 0 rfl) ?_
    refine lv_iconst (v := (2 : Int32)) hx hb dX7_turnAfterRemoving_133 (by decide) ?_
    obtain ⟨q14, hq14, hf⟩ := obE hf
    refine ct_cVv (rest := []) (tX4_addRank hD hi hq14) hx hb hml hown ht hX hP hS wX4_addRank kML_RX7_103 rfl rfl ⟨Nat.le_of_ble_eq_true rfl, Nat.le_of_ble_eq_true rfl⟩ (va_recv hX.1 hP rfl (ct_nodes hi)) rfl hl.1 rfl (Nat.le_of_ble_eq_true rfl) dX7_turnAfterRemoving_134 (fun H locs hP hS => ?_)
    refine lv_aload_n hx hb dX7_turnAfterRemoving_137 rfl (lv_at hl 1 rfl) ?_
    refine va_get (ci := 5) (v := .ref (ad (10 * i + 1))) hx hb ht i_X7 hown hX.1 hP (10 * i) (cw_tree (i := i) hi) rfl 0 (by decide) (ht _ kFL_RX7_12) (fun _ h9 => h9) rfl dX7_turnAfterRemoving_138 ?_
    refine lv_iload_n hx hb dX7_turnAfterRemoving_141 rfl (lv_at hl 3 rfl) ?_
    refine lv_iconst (v := (-1 : Int32)) hx hb dX7_turnAfterRemoving_142 (by decide) ?_
    obtain ⟨q15, hq15, hf⟩ := obE hf
    refine ct_cVv (rest := []) (tX4_addRank hD hi hq15) hx hb hml hown ht hX hP hS wX4_addRank kML_RX7_103 rfl rfl ⟨Nat.le_of_ble_eq_true rfl, Nat.le_of_ble_eq_true rfl⟩ (va_recv hX.1 hP rfl (ct_nodes hi)) rfl hl.1 rfl (Nat.le_of_ble_eq_true rfl) dX7_turnAfterRemoving_143 (fun H locs hP hS => ?_)
    refine lv_aload_n hx hb dX7_turnAfterRemoving_146 rfl (lv_at hl 1 rfl) ?_
    refine va_get (ci := 5) (v := .ref (ad (10 * i + 1))) hx hb ht i_X7 hown hX.1 hP (10 * i) (cw_tree (i := i) hi) rfl 0 (by decide) (ht _ kFL_RX7_12) (fun _ h9 => h9) rfl dX7_turnAfterRemoving_147 ?_
    refine lv_iload_n hx hb dX7_turnAfterRemoving_150 rfl (lv_at hl 2 rfl) ?_
    refine lv_bipush (v := (-2 : Int32)) hx hb dX7_turnAfterRemoving_151 (by decide) ?_
    obtain ⟨q16, hq16, hf⟩ := obE hf
    refine ct_cVv (rest := []) (tX4_addRank hD hi hq16) hx hb hml hown ht hX hP hS wX4_addRank kML_RX7_103 rfl rfl ⟨Nat.le_of_ble_eq_true rfl, Nat.le_of_ble_eq_true rfl⟩ (va_recv hX.1 hP rfl (ct_nodes hi)) rfl hl.1 rfl (Nat.le_of_ble_eq_true rfl) dX7_turnAfterRemoving_153 (fun H locs hP hS => ?_)
    have e0 := Option.some.inj hf
    subst e0
    exact hret _ _ _ _ hP hS dX7_turnAfterRemoving_156
  unfold fX7_turnAfterRemoving at hf
  refine lv_aload_n hx hb dX7_turnAfterRemoving_0 rfl (lv_at hl 0 rfl) ?_
  refine va_get (ci := 5) (v := .ref (ad (10 * i + 1))) hx hb ht i_X7 hown hX.1 hP (10 * i) (cw_tree (i := i) hi) rfl 0 (by decide) (ht _ kFL_RX7_12) (fun _ h9 => h9) rfl dX7_turnAfterRemoving_1 ?_
  refine lv_iload_n hx hb dX7_turnAfterRemoving_4 rfl (lv_at hl 2 rfl) ?_
  refine lv_aload_n hx hb dX7_turnAfterRemoving_5 rfl (lv_at hl 0 rfl) ?_
  refine va_get (ci := 5) (v := .ref (ad (10 * i + 1))) hx hb ht i_X7 hown hX.1 hP (10 * i) (cw_tree (i := i) hi) rfl 0 (by decide) (ht _ kFL_RX7_12) (fun _ h9 => h9) rfl dX7_turnAfterRemoving_6 ?_
  refine lv_iload_n hx hb dX7_turnAfterRemoving_9 rfl (lv_at hl 2 rfl) ?_
  refine lv_iload_n hx hb dX7_turnAfterRemoving_10 rfl (lv_at hl 3 rfl) ?_
  obtain ⟨q1, hq1, hf⟩ := obE hf
  refine ct_cVi (rest := [.int x2, .ref (ad (10 * i + 1))]) (tX4_childOf hD hi hq1) hx hb hml hown ht hX hP hS wX4_childOf kML_RX7_85 rfl rfl ⟨Nat.le_of_ble_eq_true rfl, Nat.le_of_ble_eq_true rfl⟩ (va_recv hX.1 hP rfl (ct_nodes hi)) rfl hl.1 rfl (Nat.le_of_ble_eq_true rfl) dX7_turnAfterRemoving_11 (fun H locs hP hS => ?_)
  obtain ⟨q2, hq2, hf⟩ := obE hf
  refine ct_cVi (rest := []) (tX4_step hD hi hq2) hx hb hml hown ht hX hP hS wX4_step kML_RX7_82 rfl rfl ⟨Nat.le_of_ble_eq_true rfl, Nat.le_of_ble_eq_true rfl⟩ (va_recv hX.1 hP rfl (ct_nodes hi)) rfl hl.1 rfl (Nat.le_of_ble_eq_true rfl) dX7_turnAfterRemoving_14 (fun H locs hP hS => ?_)
  refine lv_iconst (v := (1 : Int32)) hx hb dX7_turnAfterRemoving_17 (by decide) ?_
  refine lv_icmp_ne (tgt := 77) hx hb dX7_turnAfterRemoving_18 (by decide) (fun hc3 => ?_) (fun hc3 => ?_)
  · rw [if_neg hc3] at hf
    refine lv_aload_n hx hb dX7_turnAfterRemoving_77 rfl (lv_at hl 0 rfl) ?_
    refine va_get (ci := 5) (v := .ref (ad (10 * i + 1))) hx hb ht i_X7 hown hX.1 hP (10 * i) (cw_tree (i := i) hi) rfl 0 (by decide) (ht _ kFL_RX7_12) (fun _ h9 => h9) rfl dX7_turnAfterRemoving_78 ?_
    refine lv_iload_n hx hb dX7_turnAfterRemoving_81 rfl (lv_at hl 2 rfl) ?_
    refine lv_iload_n hx hb dX7_turnAfterRemoving_82 rfl (lv_at hl 3 rfl) ?_
    refine lv_if_ne (tgt := 90) hx hb dX7_turnAfterRemoving_83 (by decide) (fun hc4 => ?_) (fun hc4 => ?_)
    · rw [if_neg hc4] at hf
      refine lv_iconst (v := (0 : Int32)) hx hb dX7_turnAfterRemoving_90 (by decide) ?_
      exact blk91 _ _ τ x1 x2 x2 (0 : Int32) ls hP hS (lv_sub hl [0, 1, 2] rfl) hf
    · rw [if_pos hc4] at hf
      refine lv_iconst (v := (1 : Int32)) hx hb dX7_turnAfterRemoving_86 (by decide) ?_
      refine lv_goto (tgt := 91) hx hb dX7_turnAfterRemoving_87 (by decide) ?_
      exact blk91 _ _ τ x1 x2 x2 (1 : Int32) ls hP hS (lv_sub hl [0, 1, 2] rfl) hf
  · rw [if_pos hc3] at hf
    refine lv_aload_n hx hb dX7_turnAfterRemoving_21 rfl (lv_at hl 0 rfl) ?_
    refine va_get (ci := 5) (v := .ref (ad (10 * i + 1))) hx hb ht i_X7 hown hX.1 hP (10 * i) (cw_tree (i := i) hi) rfl 0 (by decide) (ht _ kFL_RX7_12) (fun _ h9 => h9) rfl dX7_turnAfterRemoving_22 ?_
    refine lv_iload_n hx hb dX7_turnAfterRemoving_25 rfl (lv_at hl 2 rfl) ?_
    obtain ⟨q5, hq5, hf⟩ := obE hf
    refine ct_cVv (rest := []) (tX4_turnOverParent hD hi hq5) hx hb hml hown ht hX hP hS wX4_turnOverParent kML_RX7_96 rfl rfl ⟨Nat.le_of_ble_eq_true rfl, Nat.le_of_ble_eq_true rfl⟩ (va_recv hX.1 hP rfl (ct_nodes hi)) rfl hl.1 rfl (Nat.le_of_ble_eq_true rfl) dX7_turnAfterRemoving_26 (fun H locs hP hS => ?_)
    refine lv_aload_n hx hb dX7_turnAfterRemoving_29 rfl (lv_at hl 0 rfl) ?_
    refine va_get (ci := 5) (v := .ref (ad (10 * i + (1 + 8)))) hx hb ht i_X7 hown hX.1 hP (10 * i) (cw_tree (i := i) hi) rfl 2 (by decide) (ht _ kFL_RX7_25) (fun _ h9 => h9) rfl dX7_turnAfterRemoving_30 ?_
    refine lv_dup hx hb dX7_turnAfterRemoving_33 rfl ?_
    refine va_get (ci := 0) (v := .int (q5 8 2)) hx hb ht i_X1 hown hX.1 hP (10 * i + (1 + 8)) (ct_cnt hi (Or.inr rfl)) rfl 2 (by decide) (ht _ kFL_RX7_99) (fun _ h9 => h9) rfl dX7_turnAfterRemoving_34 ?_
    refine lv_iconst (v := (1 : Int32)) hx hb dX7_turnAfterRemoving_37 (by decide) ?_
    refine lv_iadd hx hb dX7_turnAfterRemoving_38 ?_
    refine cr_putC hD hx hb ht hown hX hP hS hi (Or.inr rfl) (Or.inr (Or.inr ⟨rfl, rfl⟩)) kFL_RX7_99 dX7_turnAfterRemoving_39 (fun H locs hP hS => ?_)
    refine lv_aload_n hx hb dX7_turnAfterRemoving_42 rfl (lv_at hl 0 rfl) ?_
    refine va_get (ci := 5) (v := .ref (ad (10 * i + 1))) hx hb ht i_X7 hown hX.1 hP (10 * i) (cw_tree (i := i) hi) rfl 0 (by decide) (ht _ kFL_RX7_12) (fun _ h9 => h9) rfl dX7_turnAfterRemoving_43 ?_
    refine lv_iload_n hx hb dX7_turnAfterRemoving_46 rfl (lv_at hl 2 rfl) ?_
    refine lv_iconst (v := (1 : Int32)) hx hb dX7_turnAfterRemoving_47 (by decide) ?_
    obtain ⟨q6, hq6, hf⟩ := obE hf
    refine ct_cVv (rest := []) (tX4_addRank hD hi hq6) hx hb hml hown ht hX hP hS wX4_addRank kML_RX7_103 rfl rfl ⟨Nat.le_of_ble_eq_true rfl, Nat.le_of_ble_eq_true rfl⟩ (va_recv hX.1 hP rfl (ct_nodes hi)) rfl hl.1 rfl (Nat.le_of_ble_eq_true rfl) dX7_turnAfterRemoving_48 (fun H locs hP hS => ?_)
    refine lv_aload_n hx hb dX7_turnAfterRemoving_51 rfl (lv_at hl 0 rfl) ?_
    refine va_get (ci := 5) (v := .ref (ad (10 * i + 1))) hx hb ht i_X7 hown hX.1 hP (10 * i) (cw_tree (i := i) hi) rfl 0 (by decide) (ht _ kFL_RX7_12) (fun _ h9 => h9) rfl dX7_turnAfterRemoving_52 ?_
    refine lv_iload_n hx hb dX7_turnAfterRemoving_55 rfl (lv_at hl 1 rfl) ?_
    refine lv_aload_n hx hb dX7_turnAfterRemoving_56 rfl (lv_at hl 0 rfl) ?_
    refine va_get (ci := 5) (v := .ref (ad (10 * i + 1))) hx hb ht i_X7 hown hX.1 hP (10 * i) (cw_tree (i := i) hi) rfl 0 (by decide) (ht _ kFL_RX7_12) (fun _ h9 => h9) rfl dX7_turnAfterRemoving_57 ?_
    refine lv_iload_n hx hb dX7_turnAfterRemoving_60 rfl (lv_at hl 1 rfl) ?_
    obtain ⟨q7, hq7, hf⟩ := obE hf
    refine ct_cVi (rest := [.int x1, .ref (ad (10 * i + 1))]) (tX4_isLeaf hD hi hq7) hx hb hml hown ht hX hP hS wX4_isLeaf kML_RX7_69 rfl rfl ⟨Nat.le_of_ble_eq_true rfl, Nat.le_of_ble_eq_true rfl⟩ (va_recv hX.1 hP rfl (ct_nodes hi)) rfl hl.1 rfl (Nat.le_of_ble_eq_true rfl) dX7_turnAfterRemoving_61 (fun H locs hP hS => ?_)
    refine lv_if_eq (tgt := 72) hx hb dX7_turnAfterRemoving_64 (by decide) (fun hc8 => ?_) (fun hc8 => ?_)
    · rw [if_pos hc8] at hf
      refine lv_iconst (v := (-1 : Int32)) hx hb dX7_turnAfterRemoving_72 (by decide) ?_
      obtain ⟨q9, hq9, hf⟩ := obE hf
      refine ct_cVv (rest := []) (tX4_addRank hD hi hq9) hx hb hml hown ht hX hP hS wX4_addRank kML_RX7_103 rfl rfl ⟨Nat.le_of_ble_eq_true rfl, Nat.le_of_ble_eq_true rfl⟩ (va_recv hX.1 hP rfl (ct_nodes hi)) rfl hl.1 rfl (Nat.le_of_ble_eq_true rfl) dX7_turnAfterRemoving_73 (fun H locs hP hS => ?_)
      have e0 := Option.some.inj hf
      subst e0
      exact hret _ _ _ _ hP hS dX7_turnAfterRemoving_76
    · rw [if_neg hc8] at hf
      refine lv_bipush (v := (-2 : Int32)) hx hb dX7_turnAfterRemoving_67 (by decide) ?_
      refine lv_goto (tgt := 73) hx hb dX7_turnAfterRemoving_69 (by decide) ?_
      obtain ⟨q10, hq10, hf⟩ := obE hf
      refine ct_cVv (rest := []) (tX4_addRank hD hi hq10) hx hb hml hown ht hX hP hS wX4_addRank kML_RX7_103 rfl rfl ⟨Nat.le_of_ble_eq_true rfl, Nat.le_of_ble_eq_true rfl⟩ (va_recv hX.1 hP rfl (ct_nodes hi)) rfl hl.1 rfl (Nat.le_of_ble_eq_true rfl) dX7_turnAfterRemoving_73 (fun H locs hP hS => ?_)
      have e0 := Option.some.inj hf
      subst e0
      exact hret _ _ _ _ hP hS dX7_turnAfterRemoving_76
def fX7_mendGap_125 (F : Nat) (k8 : Tau → Int32 → Int32 → Int32 → Option (Tau)) (τ : Tau) (x4 : Int32) (x5 : Int32) : Option (Tau) := (fX7_demote F τ x4).bind fun q17 => ((fX4_parentOf F q17 x4).bind fun q18 => (k8 q17 x4 q18 (x5 + (1 : Int32))))
def fX7_mendGap_71 (F : Nat) (k8 : Tau → Int32 → Int32 → Int32 → Option (Tau)) (τ : Tau) (x4 : Int32) (x5 : Int32) (x6 : Int32) (y1 : Int32) (y2 : Int32) : Option (Tau) := (fX4_childOf F τ y1 y2).bind fun q8 => ((fX4_step F τ x4 q8).bind fun q9 => (if q9 = (2 : Int32) then (fX7_mendGap_125 F k8 τ x4 x5) else ((fX7_hasOnlyLongSteps F τ q8).bind fun q11 => (if q11 = 0 then (if x6 = 0 then ((fX7_turnAfterRemoving F τ x4 q8 (1 : Int32)).bind fun q16 => (some q16)) else ((fX7_turnAfterRemoving F τ x4 q8 (0 : Int32)).bind fun q15 => (some q15))) else ((fX7_demote F τ q8).bind fun q13 => (fX7_mendGap_125 F k8 q13 x4 x5))))))
def fX7_mendGap_53 (F : Nat) (k8 : Tau → Int32 → Int32 → Int32 → Option (Tau)) (τ : Tau) (x4 : Int32) (x5 : Int32) (y0 : Int32) : Option (Tau) := if y0 = 0 then (fX7_mendGap_71 F k8 τ x4 x5 y0 x4 (1 : Int32)) else (fX7_mendGap_71 F k8 τ x4 x5 y0 x4 (0 : Int32))
def fX7_mendGap_8 (F : Nat) : Nat → Tau → Int32 → Int32 → Int32 → Option (Tau)
  | 0, _, _, _, _ => none
  | n + 1, τ, x3, x4, x5 => if (60 : Int32) ≤ x5 then (some τ) else (if x4 = (-1 : Int32) then (some τ) else ((fX4_step F τ x4 x3).bind fun q3 => (if q3 = (3 : Int32) then ((fX4_leftOf F τ x4).bind fun q5 => (if q5 = x3 then (fX7_mendGap_53 F (fun τ x3 x4 x5 => fX7_mendGap_8 F n τ x3 x4 x5) τ x4 x5 (1 : Int32)) else (fX7_mendGap_53 F (fun τ x3 x4 x5 => fX7_mendGap_8 F n τ x3 x4 x5) τ x4 x5 (0 : Int32)))) else (some τ))))
def fX7_mendGap (F : Nat) (τ : Tau) (x1 : Int32) (x2 : Int32) : Option (Tau) := fX7_mendGap_8 F F τ x2 x1 (0 : Int32)
abbrev rX7_mendGap : Room := { frames := 3, cells := 0, slots := 0, locals := 72 }
theorem wX7_mendGap : kV yX7_mendGap cX7_mendGap 8 none 2 := ⟨kCO_yX7_mendGap, kIM_yX7_mendGap, kSE_yX7_mendGap, kIN_RX7, by decide +kernel, by decide +kernel, by decide +kernel⟩
set_option maxHeartbeats 4000000 in
set_option maxRecDepth 100000 in
theorem tX7_mendGap {l : Launch} {D : va_G} {cI cT cM : ClassId} {ad : Nat → Nat} (hD : gInj 167 ad) {F : Nat} {σ : Sig} {i : Nat} (hi : i < 16) {τ : Tau} {x1 : Int32} {x2 : Int32} {res : Tau} (hf : fX7_mendGap F τ x1 x2 = some res) : CTv l yX7_mendGap cX7_mendGap 8 rX7_mendGap D (cTy cI cT cM) (gA 167 ad) [.ref (ad (10 * i)), .int x1, .int x2] (cw cI cT cM ad (u3 σ i τ)) (cw cI cT cM ad (u3 σ i res)) := by
  refine ct_void (by decide) (Nat.le_of_ble_eq_true rfl) ?_
  intro p e s m args below meth c Q ls hx hb hml hown ht hX hret hP hS hl
  have hl : lv_has ls 8 [(0, .ref (ad (10 * i))), (1, .int x1), (2, .int x2)] := hl
  have blk8 : ∀ (n8 : Nat) (H : Heap) (locs : List Loc) (τ : Tau) (x3 : Int32) (x4 : Int32) (x5 : Int32) (ls : Array Slot), va_P D vwCl (cw cI cT cM ad (u3 σ i τ)) H → va_S (gA 167 ad) s.heap H locs → lv_has ls 8 [(0, .ref (ad (10 * i))), (3, .int x3), (4, .int x4), (5, .int x5)] → fX7_mendGap_8 F n8 τ x3 x4 x5 = some res → W p l e rX7_mendGap s m args below meth c H locs 0 0 Q (F0 m 8 ls []) := by
    intro n8
    induction n8 with
    | zero =>
      intro H locs τ x3 x4 x5 ls hP hS hl hf
      rw [fX7_mendGap_8] at hf
      cases hf
    | succ n8 ih8 =>
      skip
      have blk125 : ∀ (H : Heap) (locs : List Loc) (τ : Tau) (x4 : Int32) (x5 : Int32) (ls : Array Slot), va_P D vwCl (cw cI cT cM ad (u3 σ i τ)) H → va_S (gA 167 ad) s.heap H locs → lv_has ls 8 [(0, .ref (ad (10 * i))), (4, .int x4), (5, .int x5)] → fX7_mendGap_125 F (fun τ x3 x4 x5 => fX7_mendGap_8 F n8 τ x3 x4 x5) τ x4 x5 = some res → W p l e rX7_mendGap s m args below meth c H locs 0 0 Q (F0 m 125 ls []) := by
        intro H locs τ x4 x5 ls hP hS hl hf
        unfold fX7_mendGap_125 at hf
        refine lv_aload_n hx hb dX7_mendGap_125 rfl (lv_at hl 0 rfl) ?_
        refine lv_iload hx hb dX7_mendGap_126 (lv_at hl 1 rfl) ?_
        obtain ⟨q17, hq17, hf⟩ := obE hf
        refine ct_cVv (rest := []) (tX7_demote hD hi hq17) hx hb hml hown ht hX hP hS wX7_demote kML_RX7_76 rfl rfl ⟨Nat.le_of_ble_eq_true rfl, Nat.le_of_ble_eq_true rfl⟩ (va_recv hX.1 hP rfl (cw_tree (i := i) hi)) rfl hl.1 rfl (Nat.le_of_ble_eq_true rfl) dX7_mendGap_128 (fun H locs hP hS => ?_)
        refine lv_iload hx hb dX7_mendGap_131 (lv_at hl 1 rfl) ?_
        refine lv_istore_n (lv' := [(3, .int x4), (0, .ref (ad (10 * i))), (4, .int x4), (5, .int x5)]) hx hb dX7_mendGap_133 rfl hl (by decide) rfl (fun ls hl => ?_)
        refine lv_aload_n hx hb dX7_mendGap_134 rfl (lv_at hl 1 rfl) ?_
        refine va_get (ci := 5) (v := .ref (ad (10 * i + 1))) hx hb ht i_X7 hown hX.1 hP (10 * i) (cw_tree (i := i) hi) rfl 0 (by decide) (ht _ kFL_RX7_12) (fun _ h9 => h9) rfl dX7_mendGap_135 ?_
        refine lv_iload_n hx hb dX7_mendGap_138 rfl (lv_at hl 0 rfl) ?_
        obtain ⟨q18, hq18, hf⟩ := obE hf
        refine ct_cVi (rest := []) (tX4_parentOf hD hi hq18) hx hb hml hown ht hX hP hS wX4_parentOf kML_RX7_63 rfl rfl ⟨Nat.le_of_ble_eq_true rfl, Nat.le_of_ble_eq_true rfl⟩ (va_recv hX.1 hP rfl (ct_nodes hi)) rfl hl.1 rfl (Nat.le_of_ble_eq_true rfl) dX7_mendGap_139 (fun H locs hP hS => ?_)
        refine lv_istore (lv' := [(4, .int q18), (3, .int x4), (0, .ref (ad (10 * i))), (5, .int x5)]) hx hb dX7_mendGap_142 hl (by decide) rfl (fun ls hl => ?_)
        refine lv_iinc (v := x5 + (1 : Int32)) (lv' := [(5, .int (x5 + (1 : Int32))), (4, .int q18), (3, .int x4), (0, .ref (ad (10 * i)))]) hx hb dX7_mendGap_144 hl (k := 3) rfl rfl (by decide) rfl (fun ls hl => ?_)
        refine lv_goto (tgt := 8) hx hb dX7_mendGap_147 (by decide) ?_
        exact ih8 _ _ q17 x4 q18 (x5 + (1 : Int32)) ls hP hS (lv_sub hl [3, 2, 1, 0] rfl) hf
      have blk71 : ∀ (H : Heap) (locs : List Loc) (τ : Tau) (x4 : Int32) (x5 : Int32) (x6 : Int32) (y1 : Int32) (y2 : Int32) (ls : Array Slot), va_P D vwCl (cw cI cT cM ad (u3 σ i τ)) H → va_S (gA 167 ad) s.heap H locs → lv_has ls 8 [(0, .ref (ad (10 * i))), (4, .int x4), (5, .int x5), (6, .int x6)] → fX7_mendGap_71 F (fun τ x3 x4 x5 => fX7_mendGap_8 F n8 τ x3 x4 x5) τ x4 x5 x6 y1 y2 = some res → W p l e rX7_mendGap s m args below meth c H locs 0 0 Q (F0 m 71 ls [.int y2, .int y1, .ref (ad (10 * i + 1))]) := by
        intro H locs τ x4 x5 x6 y1 y2 ls hP hS hl hf
        unfold fX7_mendGap_71 at hf
        obtain ⟨q8, hq8, hf⟩ := obE hf
        refine ct_cVi (rest := []) (tX4_childOf hD hi hq8) hx hb hml hown ht hX hP hS wX4_childOf kML_RX7_85 rfl rfl ⟨Nat.le_of_ble_eq_true rfl, Nat.le_of_ble_eq_true rfl⟩ (va_recv hX.1 hP rfl (ct_nodes hi)) rfl hl.1 rfl (Nat.le_of_ble_eq_true rfl) dX7_mendGap_71 (fun H locs hP hS => ?_)
        refine lv_istore (lv' := [(7, .int q8), (0, .ref (ad (10 * i))), (4, .int x4), (5, .int x5), (6, .int x6)]) hx hb dX7_mendGap_74 hl (by decide) rfl (fun ls hl => ?_)
        refine lv_aload_n hx hb dX7_mendGap_76 rfl (lv_at hl 1 rfl) ?_
        refine va_get (ci := 5) (v := .ref (ad (10 * i + 1))) hx hb ht i_X7 hown hX.1 hP (10 * i) (cw_tree (i := i) hi) rfl 0 (by decide) (ht _ kFL_RX7_12) (fun _ h9 => h9) rfl dX7_mendGap_77 ?_
        refine lv_iload hx hb dX7_mendGap_80 (lv_at hl 2 rfl) ?_
        refine lv_iload hx hb dX7_mendGap_82 (lv_at hl 0 rfl) ?_
        obtain ⟨q9, hq9, hf⟩ := obE hf
        refine ct_cVi (rest := []) (tX4_step hD hi hq9) hx hb hml hown ht hX hP hS wX4_step kML_RX7_82 rfl rfl ⟨Nat.le_of_ble_eq_true rfl, Nat.le_of_ble_eq_true rfl⟩ (va_recv hX.1 hP rfl (ct_nodes hi)) rfl hl.1 rfl (Nat.le_of_ble_eq_true rfl) dX7_mendGap_84 (fun H locs hP hS => ?_)
        refine lv_iconst (v := (2 : Int32)) hx hb dX7_mendGap_87 (by decide) ?_
        refine lv_icmp_eq (tgt := 125) hx hb dX7_mendGap_88 (by decide) (fun hc10 => ?_) (fun hc10 => ?_)
        · rw [if_pos hc10] at hf
          exact blk125 _ _ τ x4 x5 ls hP hS (lv_sub hl [1, 2, 3] rfl) hf
        · rw [if_neg hc10] at hf
          refine lv_aload_n hx hb dX7_mendGap_91 rfl (lv_at hl 1 rfl) ?_
          refine lv_iload hx hb dX7_mendGap_92 (lv_at hl 0 rfl) ?_
          obtain ⟨q11, hq11, hf⟩ := obE hf
          refine ct_cVi (rest := []) (tX7_hasOnlyLongSteps hD hi hq11) hx hb hml hown ht hX hP hS wX7_hasOnlyLongSteps kML_RX7_106 rfl rfl ⟨Nat.le_of_ble_eq_true rfl, Nat.le_of_ble_eq_true rfl⟩ (va_recv hX.1 hP rfl (cw_tree (i := i) hi)) rfl hl.1 rfl (Nat.le_of_ble_eq_true rfl) dX7_mendGap_94 (fun H locs hP hS => ?_)
          refine lv_if_ne (tgt := 119) hx hb dX7_mendGap_97 (by decide) (fun hc12 => ?_) (fun hc12 => ?_)
          · rw [if_neg hc12] at hf
            refine lv_aload_n hx hb dX7_mendGap_119 rfl (lv_at hl 1 rfl) ?_
            refine lv_iload hx hb dX7_mendGap_120 (lv_at hl 0 rfl) ?_
            obtain ⟨q13, hq13, hf⟩ := obE hf
            refine ct_cVv (rest := []) (tX7_demote hD hi hq13) hx hb hml hown ht hX hP hS wX7_demote kML_RX7_76 rfl rfl ⟨Nat.le_of_ble_eq_true rfl, Nat.le_of_ble_eq_true rfl⟩ (va_recv hX.1 hP rfl (cw_tree (i := i) hi)) rfl hl.1 rfl (Nat.le_of_ble_eq_true rfl) dX7_mendGap_122 (fun H locs hP hS => ?_)
            exact blk125 _ _ q13 x4 x5 ls hP hS (lv_sub hl [1, 2, 3] rfl) hf
          · rw [if_pos hc12] at hf
            refine lv_aload_n hx hb dX7_mendGap_100 rfl (lv_at hl 1 rfl) ?_
            refine lv_iload hx hb dX7_mendGap_101 (lv_at hl 2 rfl) ?_
            refine lv_iload hx hb dX7_mendGap_103 (lv_at hl 0 rfl) ?_
            refine lv_iload hx hb dX7_mendGap_105 (lv_at hl 4 rfl) ?_
            refine lv_if_ne (tgt := 114) hx hb dX7_mendGap_107 (by decide) (fun hc14 => ?_) (fun hc14 => ?_)
            · rw [if_neg hc14] at hf
              refine lv_iconst (v := (0 : Int32)) hx hb dX7_mendGap_114 (by decide) ?_
              obtain ⟨q15, hq15, hf⟩ := obE hf
              refine ct_cVv (rest := []) (tX7_turnAfterRemoving hD hi hq15) hx hb hml hown ht hX hP hS wX7_turnAfterRemoving kML_RX7_109 rfl rfl ⟨Nat.le_of_ble_eq_true rfl, Nat.le_of_ble_eq_true rfl⟩ (va_recv hX.1 hP rfl (cw_tree (i := i) hi)) rfl hl.1 rfl (Nat.le_of_ble_eq_true rfl) dX7_mendGap_115 (fun H locs hP hS => ?_)
              have e0 := Option.some.inj hf
              subst e0
              exact hret _ _ _ _ hP hS dX7_mendGap_118
            · rw [if_pos hc14] at hf
              refine lv_iconst (v := (1 : Int32)) hx hb dX7_mendGap_110 (by decide) ?_
              refine lv_goto (tgt := 115) hx hb dX7_mendGap_111 (by decide) ?_
              obtain ⟨q16, hq16, hf⟩ := obE hf
              refine ct_cVv (rest := []) (tX7_turnAfterRemoving hD hi hq16) hx hb hml hown ht hX hP hS wX7_turnAfterRemoving kML_RX7_109 rfl rfl ⟨Nat.le_of_ble_eq_true rfl, Nat.le_of_ble_eq_true rfl⟩ (va_recv hX.1 hP rfl (cw_tree (i := i) hi)) rfl hl.1 rfl (Nat.le_of_ble_eq_true rfl) dX7_mendGap_115 (fun H locs hP hS => ?_)
              have e0 := Option.some.inj hf
              subst e0
              exact hret _ _ _ _ hP hS dX7_mendGap_118
      have blk53 : ∀ (H : Heap) (locs : List Loc) (τ : Tau) (x4 : Int32) (x5 : Int32) (y0 : Int32) (ls : Array Slot), va_P D vwCl (cw cI cT cM ad (u3 σ i τ)) H → va_S (gA 167 ad) s.heap H locs → lv_has ls 8 [(0, .ref (ad (10 * i))), (4, .int x4), (5, .int x5)] → fX7_mendGap_53 F (fun τ x3 x4 x5 => fX7_mendGap_8 F n8 τ x3 x4 x5) τ x4 x5 y0 = some res → W p l e rX7_mendGap s m args below meth c H locs 0 0 Q (F0 m 53 ls [.int y0]) := by
        intro H locs τ x4 x5 y0 ls hP hS hl hf
        unfold fX7_mendGap_53 at hf
        refine lv_istore (lv' := [(6, .int y0), (0, .ref (ad (10 * i))), (4, .int x4), (5, .int x5)]) hx hb dX7_mendGap_53 hl (by decide) rfl (fun ls hl => ?_)
        refine lv_aload_n hx hb dX7_mendGap_55 rfl (lv_at hl 1 rfl) ?_
        refine va_get (ci := 5) (v := .ref (ad (10 * i + 1))) hx hb ht i_X7 hown hX.1 hP (10 * i) (cw_tree (i := i) hi) rfl 0 (by decide) (ht _ kFL_RX7_12) (fun _ h9 => h9) rfl dX7_mendGap_56 ?_
        refine lv_iload hx hb dX7_mendGap_59 (lv_at hl 2 rfl) ?_
        refine lv_iload hx hb dX7_mendGap_61 (lv_at hl 0 rfl) ?_
        refine lv_if_ne (tgt := 70) hx hb dX7_mendGap_63 (by decide) (fun hc7 => ?_) (fun hc7 => ?_)
        · rw [if_neg hc7] at hf
          refine lv_iconst (v := (0 : Int32)) hx hb dX7_mendGap_70 (by decide) ?_
          exact blk71 _ _ τ x4 x5 y0 x4 (0 : Int32) ls hP hS (lv_sub hl [1, 2, 3, 0] rfl) hf
        · rw [if_pos hc7] at hf
          refine lv_iconst (v := (1 : Int32)) hx hb dX7_mendGap_66 (by decide) ?_
          refine lv_goto (tgt := 71) hx hb dX7_mendGap_67 (by decide) ?_
          exact blk71 _ _ τ x4 x5 y0 x4 (1 : Int32) ls hP hS (lv_sub hl [1, 2, 3, 0] rfl) hf
      intro H locs τ x3 x4 x5 ls hP hS hl hf
      rw [fX7_mendGap_8] at hf
      refine lv_iload hx hb dX7_mendGap_8 (lv_at hl 3 rfl) ?_
      refine lv_bipush (v := (60 : Int32)) hx hb dX7_mendGap_10 (by decide) ?_
      refine lv_icmp_ge (tgt := 150) hx hb dX7_mendGap_12 (by decide) (fun hc1 => ?_) (fun hc1 => ?_)
      · rw [if_pos hc1] at hf
        have e0 := Option.some.inj hf
        subst e0
        exact hret _ _ _ _ hP hS dX7_mendGap_150
      · rw [if_neg hc1] at hf
        refine lv_iload hx hb dX7_mendGap_15 (lv_at hl 2 rfl) ?_
        refine lv_iconst (v := (-1 : Int32)) hx hb dX7_mendGap_17 (by decide) ?_
        refine lv_icmp_eq (tgt := 150) hx hb dX7_mendGap_18 (by decide) (fun hc2 => ?_) (fun hc2 => ?_)
        · rw [if_pos hc2] at hf
          have e0 := Option.some.inj hf
          subst e0
          exact hret _ _ _ _ hP hS dX7_mendGap_150
        · rw [if_neg hc2] at hf
          refine lv_aload_n hx hb dX7_mendGap_21 rfl (lv_at hl 0 rfl) ?_
          refine va_get (ci := 5) (v := .ref (ad (10 * i + 1))) hx hb ht i_X7 hown hX.1 hP (10 * i) (cw_tree (i := i) hi) rfl 0 (by decide) (ht _ kFL_RX7_12) (fun _ h9 => h9) rfl dX7_mendGap_22 ?_
          refine lv_iload hx hb dX7_mendGap_25 (lv_at hl 2 rfl) ?_
          refine lv_iload_n hx hb dX7_mendGap_27 rfl (lv_at hl 1 rfl) ?_
          obtain ⟨q3, hq3, hf⟩ := obE hf
          refine ct_cVi (rest := []) (tX4_step hD hi hq3) hx hb hml hown ht hX hP hS wX4_step kML_RX7_82 rfl rfl ⟨Nat.le_of_ble_eq_true rfl, Nat.le_of_ble_eq_true rfl⟩ (va_recv hX.1 hP rfl (ct_nodes hi)) rfl hl.1 rfl (Nat.le_of_ble_eq_true rfl) dX7_mendGap_28 (fun H locs hP hS => ?_)
          refine lv_iconst (v := (3 : Int32)) hx hb dX7_mendGap_31 (by decide) ?_
          refine lv_icmp_ne (tgt := 150) hx hb dX7_mendGap_32 (by decide) (fun hc4 => ?_) (fun hc4 => ?_)
          · rw [if_neg hc4] at hf
            have e0 := Option.some.inj hf
            subst e0
            exact hret _ _ _ _ hP hS dX7_mendGap_150
          · rw [if_pos hc4] at hf
            refine lv_aload_n hx hb dX7_mendGap_35 rfl (lv_at hl 0 rfl) ?_
            refine va_get (ci := 5) (v := .ref (ad (10 * i + 1))) hx hb ht i_X7 hown hX.1 hP (10 * i) (cw_tree (i := i) hi) rfl 0 (by decide) (ht _ kFL_RX7_12) (fun _ h9 => h9) rfl dX7_mendGap_36 ?_
            refine lv_iload hx hb dX7_mendGap_39 (lv_at hl 2 rfl) ?_
            obtain ⟨q5, hq5, hf⟩ := obE hf
            refine ct_cVi (rest := []) (tX4_leftOf hD hi hq5) hx hb hml hown ht hX hP hS wX4_leftOf kML_RX7_49 rfl rfl ⟨Nat.le_of_ble_eq_true rfl, Nat.le_of_ble_eq_true rfl⟩ (va_recv hX.1 hP rfl (ct_nodes hi)) rfl hl.1 rfl (Nat.le_of_ble_eq_true rfl) dX7_mendGap_41 (fun H locs hP hS => ?_)
            refine lv_iload_n hx hb dX7_mendGap_44 rfl (lv_at hl 1 rfl) ?_
            refine lv_icmp_ne (tgt := 52) hx hb dX7_mendGap_45 (by decide) (fun hc6 => ?_) (fun hc6 => ?_)
            · rw [if_neg hc6] at hf
              refine lv_iconst (v := (0 : Int32)) hx hb dX7_mendGap_52 (by decide) ?_
              exact blk53 _ _ τ x4 x5 (0 : Int32) ls hP hS (lv_sub hl [0, 2, 3] rfl) hf
            · rw [if_pos hc6] at hf
              refine lv_iconst (v := (1 : Int32)) hx hb dX7_mendGap_48 (by decide) ?_
              refine lv_goto (tgt := 53) hx hb dX7_mendGap_49 (by decide) ?_
              exact blk53 _ _ τ x4 x5 (1 : Int32) ls hP hS (lv_sub hl [0, 2, 3] rfl) hf
  unfold fX7_mendGap at hf
  refine lv_iload_n hx hb dX7_mendGap_0 rfl (lv_at hl 2 rfl) ?_
  refine lv_istore_n (lv' := [(3, .int x2), (0, .ref (ad (10 * i))), (1, .int x1), (2, .int x2)]) hx hb dX7_mendGap_1 rfl hl (by decide) rfl (fun ls hl => ?_)
  refine lv_iload_n hx hb dX7_mendGap_2 rfl (lv_at hl 2 rfl) ?_
  refine lv_istore (lv' := [(4, .int x1), (3, .int x2), (0, .ref (ad (10 * i))), (1, .int x1), (2, .int x2)]) hx hb dX7_mendGap_3 hl (by decide) rfl (fun ls hl => ?_)
  refine lv_iconst (v := (0 : Int32)) hx hb dX7_mendGap_5 (by decide) ?_
  refine lv_istore (lv' := [(5, .int ((0 : Int32))), (4, .int x1), (3, .int x2), (0, .ref (ad (10 * i))), (1, .int x1), (2, .int x2)]) hx hb dX7_mendGap_6 hl (by decide) rfl (fun ls hl => ?_)
  exact blk8 F _ _ τ x2 x1 (0 : Int32) ls hP hS (lv_sub hl [3, 2, 1, 0] rfl) hf
def fX7_remove_129 (F : Nat) (τ : Tau) (x3 : Int32) (x4 : Int32) : Option (Tau) := (fX7_mendGap F τ x3 x4).bind fun q19 => ((fX1_add F q19 7 8).bind fun q20 => (some q20))
def fX7_remove_64 (F : Nat) (τ : Tau) (x2 : Int32) : Option (Tau) := (fX4_parentOf F τ x2).bind fun q10 => ((fX4_takeOff F τ x2).bind fun q11 => (if q10 = (-1 : Int32) then (fX7_remove_129 F q11.2 q10 q11.1) else ((fX4_isLeaf F q11.2 q10).bind fun q13 => (if q13 = 0 then (fX7_remove_129 F q11.2 q10 q11.1) else ((fX4_rankOf F q11.2 q10).bind fun q15 => (if q15 = (1 : Int32) then ((fX7_demote F q11.2 q10).bind fun q17 => ((fX4_parentOf F q17 q10).bind fun q18 => (fX7_remove_129 F q17 q18 q10))) else (fX7_remove_129 F q11.2 q10 q11.1)))))))
def fX7_remove (F : Nat) (τ : Tau) (x1 : Int32) : Option (Tau) := if x1 = (-1 : Int32) then (some τ) else ((fX1_clear F τ 8).bind fun q2 => ((fX4_leftOf F q2 x1).bind fun q3 => (if q3 = (-1 : Int32) then (fX7_remove_64 F q2 x1) else ((fX4_rightOf F q2 x1).bind fun q5 => (if q5 = (-1 : Int32) then (fX7_remove_64 F q2 x1) else ((fX4_rightOf F q2 x1).bind fun q7 => ((fX4_leastBelow F q2 q7).bind fun q8 => ((fX4_copyKeyAndWorth F q2 q8 x1).bind fun q9 => (fX7_remove_64 F q9 q8)))))))))
abbrev rX7_remove : Room := { frames := 4, cells := 0, slots := 0, locals := 99 }
theorem wX7_remove : kV yX7_remove cX7_remove 5 none 1 := ⟨kCO_yX7_remove, kIM_yX7_remove, kSE_yX7_remove, kIN_RX7, by decide +kernel, by decide +kernel, by decide +kernel⟩
set_option maxHeartbeats 4000000 in
set_option maxRecDepth 100000 in
theorem tX7_remove {l : Launch} {D : va_G} {cI cT cM : ClassId} {ad : Nat → Nat} (hD : gInj 167 ad) {F : Nat} {σ : Sig} {i : Nat} (hi : i < 16) {τ : Tau} {x1 : Int32} {res : Tau} (hf : fX7_remove F τ x1 = some res) : CTv l yX7_remove cX7_remove 5 rX7_remove D (cTy cI cT cM) (gA 167 ad) [.ref (ad (10 * i)), .int x1] (cw cI cT cM ad (u3 σ i τ)) (cw cI cT cM ad (u3 σ i res)) := by
  refine ct_void (by decide) (Nat.le_of_ble_eq_true rfl) ?_
  intro p e s m args below meth c Q ls hx hb hml hown ht hX hret hP hS hl
  have hl : lv_has ls 5 [(0, .ref (ad (10 * i))), (1, .int x1)] := hl
  have blk129 : ∀ (H : Heap) (locs : List Loc) (τ : Tau) (x3 : Int32) (x4 : Int32) (ls : Array Slot), va_P D vwCl (cw cI cT cM ad (u3 σ i τ)) H → va_S (gA 167 ad) s.heap H locs → lv_has ls 5 [(0, .ref (ad (10 * i))), (3, .int x3), (4, .int x4)] → fX7_remove_129 F τ x3 x4 = some res → W p l e rX7_remove s m args below meth c H locs 0 0 Q (F0 m 129 ls []) := by
    intro H locs τ x3 x4 ls hP hS hl hf
    unfold fX7_remove_129 at hf
    refine lv_aload_n hx hb dX7_remove_129 rfl (lv_at hl 0 rfl) ?_
    refine lv_iload_n hx hb dX7_remove_130 rfl (lv_at hl 1 rfl) ?_
    refine lv_iload hx hb dX7_remove_131 (lv_at hl 2 rfl) ?_
    obtain ⟨q19, hq19, hf⟩ := obE hf
    refine ct_cVv (rest := []) (tX7_mendGap hD hi hq19) hx hb hml hown ht hX hP hS wX7_mendGap kML_RX7_79 rfl rfl ⟨Nat.le_of_ble_eq_true rfl, Nat.le_of_ble_eq_true rfl⟩ (va_recv hX.1 hP rfl (cw_tree (i := i) hi)) rfl hl.1 rfl (Nat.le_of_ble_eq_true rfl) dX7_remove_133 (fun H locs hP hS => ?_)
    refine lv_aload_n hx hb dX7_remove_136 rfl (lv_at hl 0 rfl) ?_
    refine va_get (ci := 5) (v := .ref (ad (10 * i + (1 + 7)))) hx hb ht i_X7 hown hX.1 hP (10 * i) (cw_tree (i := i) hi) rfl 1 (by decide) (ht _ kFL_RX7_21) (fun _ h9 => h9) rfl dX7_remove_137 ?_
    refine lv_aload_n hx hb dX7_remove_140 rfl (lv_at hl 0 rfl) ?_
    refine va_get (ci := 5) (v := .ref (ad (10 * i + (1 + 8)))) hx hb ht i_X7 hown hX.1 hP (10 * i) (cw_tree (i := i) hi) rfl 2 (by decide) (ht _ kFL_RX7_25) (fun _ h9 => h9) rfl dX7_remove_141 ?_
    obtain ⟨q20, hq20, hf⟩ := obE hf
    refine ct_cVv (rest := []) (tX1_add hD hi (Or.inl rfl) (Or.inr rfl) hq20) hx hb hml hown ht hX hP hS wX1_add kML_RX7_46 rfl rfl ⟨Nat.le_of_ble_eq_true rfl, Nat.le_of_ble_eq_true rfl⟩ (va_recv hX.1 hP rfl (ct_cnt hi (Or.inl rfl))) rfl hl.1 rfl (Nat.le_of_ble_eq_true rfl) dX7_remove_144 (fun H locs hP hS => ?_)
    have e0 := Option.some.inj hf
    subst e0
    exact hret _ _ _ _ hP hS dX7_remove_147
  have blk64 : ∀ (H : Heap) (locs : List Loc) (τ : Tau) (x2 : Int32) (ls : Array Slot), va_P D vwCl (cw cI cT cM ad (u3 σ i τ)) H → va_S (gA 167 ad) s.heap H locs → lv_has ls 5 [(0, .ref (ad (10 * i))), (2, .int x2)] → fX7_remove_64 F τ x2 = some res → W p l e rX7_remove s m args below meth c H locs 0 0 Q (F0 m 64 ls []) := by
    intro H locs τ x2 ls hP hS hl hf
    unfold fX7_remove_64 at hf
    refine lv_aload_n hx hb dX7_remove_64 rfl (lv_at hl 0 rfl) ?_
    refine va_get (ci := 5) (v := .ref (ad (10 * i + 1))) hx hb ht i_X7 hown hX.1 hP (10 * i) (cw_tree (i := i) hi) rfl 0 (by decide) (ht _ kFL_RX7_12) (fun _ h9 => h9) rfl dX7_remove_65 ?_
    refine lv_iload_n hx hb dX7_remove_68 rfl (lv_at hl 1 rfl) ?_
    obtain ⟨q10, hq10, hf⟩ := obE hf
    refine ct_cVi (rest := []) (tX4_parentOf hD hi hq10) hx hb hml hown ht hX hP hS wX4_parentOf kML_RX7_63 rfl rfl ⟨Nat.le_of_ble_eq_true rfl, Nat.le_of_ble_eq_true rfl⟩ (va_recv hX.1 hP rfl (ct_nodes hi)) rfl hl.1 rfl (Nat.le_of_ble_eq_true rfl) dX7_remove_69 (fun H locs hP hS => ?_)
    refine lv_istore_n (lv' := [(3, .int q10), (0, .ref (ad (10 * i))), (2, .int x2)]) hx hb dX7_remove_72 rfl hl (by decide) rfl (fun ls hl => ?_)
    refine lv_aload_n hx hb dX7_remove_73 rfl (lv_at hl 1 rfl) ?_
    refine va_get (ci := 5) (v := .ref (ad (10 * i + 1))) hx hb ht i_X7 hown hX.1 hP (10 * i) (cw_tree (i := i) hi) rfl 0 (by decide) (ht _ kFL_RX7_12) (fun _ h9 => h9) rfl dX7_remove_74 ?_
    refine lv_iload_n hx hb dX7_remove_77 rfl (lv_at hl 2 rfl) ?_
    obtain ⟨q11, hq11, hf⟩ := obE hf
    refine ct_cVi (rest := []) (tX4_takeOff hD hi hq11) hx hb hml hown ht hX hP hS wX4_takeOff kML_RX7_66 rfl rfl ⟨Nat.le_of_ble_eq_true rfl, Nat.le_of_ble_eq_true rfl⟩ (va_recv hX.1 hP rfl (ct_nodes hi)) rfl hl.1 rfl (Nat.le_of_ble_eq_true rfl) dX7_remove_78 (fun H locs hP hS => ?_)
    refine lv_istore (lv' := [(4, .int q11.1), (3, .int q10), (0, .ref (ad (10 * i))), (2, .int x2)]) hx hb dX7_remove_81 hl (by decide) rfl (fun ls hl => ?_)
    refine lv_iload_n hx hb dX7_remove_83 rfl (lv_at hl 1 rfl) ?_
    refine lv_iconst (v := (-1 : Int32)) hx hb dX7_remove_84 (by decide) ?_
    refine lv_icmp_eq (tgt := 129) hx hb dX7_remove_85 (by decide) (fun hc12 => ?_) (fun hc12 => ?_)
    · rw [if_pos hc12] at hf
      exact blk129 _ _ q11.2 q10 q11.1 ls hP hS (lv_sub hl [2, 1, 0] rfl) hf
    · rw [if_neg hc12] at hf
      refine lv_aload_n hx hb dX7_remove_88 rfl (lv_at hl 2 rfl) ?_
      refine va_get (ci := 5) (v := .ref (ad (10 * i + 1))) hx hb ht i_X7 hown hX.1 hP (10 * i) (cw_tree (i := i) hi) rfl 0 (by decide) (ht _ kFL_RX7_12) (fun _ h9 => h9) rfl dX7_remove_89 ?_
      refine lv_iload_n hx hb dX7_remove_92 rfl (lv_at hl 1 rfl) ?_
      obtain ⟨q13, hq13, hf⟩ := obE hf
      refine ct_cVi (rest := []) (tX4_isLeaf hD hi hq13) hx hb hml hown ht hX hP hS wX4_isLeaf kML_RX7_69 rfl rfl ⟨Nat.le_of_ble_eq_true rfl, Nat.le_of_ble_eq_true rfl⟩ (va_recv hX.1 hP rfl (ct_nodes hi)) rfl hl.1 rfl (Nat.le_of_ble_eq_true rfl) dX7_remove_93 (fun H locs hP hS => ?_)
      refine lv_if_eq (tgt := 129) hx hb dX7_remove_96 (by decide) (fun hc14 => ?_) (fun hc14 => ?_)
      · rw [if_pos hc14] at hf
        exact blk129 _ _ q11.2 q10 q11.1 ls hP hS (lv_sub hl [2, 1, 0] rfl) hf
      · rw [if_neg hc14] at hf
        refine lv_aload_n hx hb dX7_remove_99 rfl (lv_at hl 2 rfl) ?_
        refine va_get (ci := 5) (v := .ref (ad (10 * i + 1))) hx hb ht i_X7 hown hX.1 hP (10 * i) (cw_tree (i := i) hi) rfl 0 (by decide) (ht _ kFL_RX7_12) (fun _ h9 => h9) rfl dX7_remove_100 ?_
        refine lv_iload_n hx hb dX7_remove_103 rfl (lv_at hl 1 rfl) ?_
        obtain ⟨q15, hq15, hf⟩ := obE hf
        refine ct_cVi (rest := []) (tX4_rankOf hD hi hq15) hx hb hml hown ht hX hP hS wX4_rankOf kML_RX7_73 rfl rfl ⟨Nat.le_of_ble_eq_true rfl, Nat.le_of_ble_eq_true rfl⟩ (va_recv hX.1 hP rfl (ct_nodes hi)) rfl hl.1 rfl (Nat.le_of_ble_eq_true rfl) dX7_remove_104 (fun H locs hP hS => ?_)
        refine lv_iconst (v := (1 : Int32)) hx hb dX7_remove_107 (by decide) ?_
        refine lv_icmp_ne (tgt := 129) hx hb dX7_remove_108 (by decide) (fun hc16 => ?_) (fun hc16 => ?_)
        · rw [if_neg hc16] at hf
          exact blk129 _ _ q11.2 q10 q11.1 ls hP hS (lv_sub hl [2, 1, 0] rfl) hf
        · rw [if_pos hc16] at hf
          refine lv_aload_n hx hb dX7_remove_111 rfl (lv_at hl 2 rfl) ?_
          refine lv_iload_n hx hb dX7_remove_112 rfl (lv_at hl 1 rfl) ?_
          obtain ⟨q17, hq17, hf⟩ := obE hf
          refine ct_cVv (rest := []) (tX7_demote hD hi hq17) hx hb hml hown ht hX hP hS wX7_demote kML_RX7_76 rfl rfl ⟨Nat.le_of_ble_eq_true rfl, Nat.le_of_ble_eq_true rfl⟩ (va_recv hX.1 hP rfl (cw_tree (i := i) hi)) rfl hl.1 rfl (Nat.le_of_ble_eq_true rfl) dX7_remove_113 (fun H locs hP hS => ?_)
          refine lv_iload_n hx hb dX7_remove_116 rfl (lv_at hl 1 rfl) ?_
          refine lv_istore (lv' := [(4, .int q10), (3, .int q10), (0, .ref (ad (10 * i))), (2, .int x2)]) hx hb dX7_remove_117 hl (by decide) rfl (fun ls hl => ?_)
          refine lv_aload_n hx hb dX7_remove_119 rfl (lv_at hl 2 rfl) ?_
          refine va_get (ci := 5) (v := .ref (ad (10 * i + 1))) hx hb ht i_X7 hown hX.1 hP (10 * i) (cw_tree (i := i) hi) rfl 0 (by decide) (ht _ kFL_RX7_12) (fun _ h9 => h9) rfl dX7_remove_120 ?_
          refine lv_iload hx hb dX7_remove_123 (lv_at hl 0 rfl) ?_
          obtain ⟨q18, hq18, hf⟩ := obE hf
          refine ct_cVi (rest := []) (tX4_parentOf hD hi hq18) hx hb hml hown ht hX hP hS wX4_parentOf kML_RX7_63 rfl rfl ⟨Nat.le_of_ble_eq_true rfl, Nat.le_of_ble_eq_true rfl⟩ (va_recv hX.1 hP rfl (ct_nodes hi)) rfl hl.1 rfl (Nat.le_of_ble_eq_true rfl) dX7_remove_125 (fun H locs hP hS => ?_)
          refine lv_istore_n (lv' := [(3, .int q18), (4, .int q10), (0, .ref (ad (10 * i))), (2, .int x2)]) hx hb dX7_remove_128 rfl hl (by decide) rfl (fun ls hl => ?_)
          exact blk129 _ _ q17 q18 q10 ls hP hS (lv_sub hl [2, 0, 1] rfl) hf
  unfold fX7_remove at hf
  refine lv_iload_n hx hb dX7_remove_0 rfl (lv_at hl 1 rfl) ?_
  refine lv_iconst (v := (-1 : Int32)) hx hb dX7_remove_1 (by decide) ?_
  refine lv_icmp_ne (tgt := 6) hx hb dX7_remove_2 (by decide) (fun hc1 => ?_) (fun hc1 => ?_)
  · rw [if_neg hc1] at hf
    refine lv_aload_n hx hb dX7_remove_6 rfl (lv_at hl 0 rfl) ?_
    refine va_get (ci := 5) (v := .ref (ad (10 * i + (1 + 8)))) hx hb ht i_X7 hown hX.1 hP (10 * i) (cw_tree (i := i) hi) rfl 2 (by decide) (ht _ kFL_RX7_25) (fun _ h9 => h9) rfl dX7_remove_7 ?_
    obtain ⟨q2, hq2, hf⟩ := obE hf
    refine ct_cVv (rest := []) (tX1_clear hD hi (Or.inr rfl) hq2) hx hb hml hown ht hX hP hS wX1_clear kML_RX7_35 rfl rfl ⟨Nat.le_of_ble_eq_true rfl, Nat.le_of_ble_eq_true rfl⟩ (va_recv hX.1 hP rfl (ct_cnt hi (Or.inr rfl))) rfl hl.1 rfl (Nat.le_of_ble_eq_true rfl) dX7_remove_10 (fun H locs hP hS => ?_)
    refine lv_iload_n hx hb dX7_remove_13 rfl (lv_at hl 1 rfl) ?_
    refine lv_istore_n (lv' := [(2, .int x1), (0, .ref (ad (10 * i))), (1, .int x1)]) hx hb dX7_remove_14 rfl hl (by decide) rfl (fun ls hl => ?_)
    refine lv_aload_n hx hb dX7_remove_15 rfl (lv_at hl 1 rfl) ?_
    refine va_get (ci := 5) (v := .ref (ad (10 * i + 1))) hx hb ht i_X7 hown hX.1 hP (10 * i) (cw_tree (i := i) hi) rfl 0 (by decide) (ht _ kFL_RX7_12) (fun _ h9 => h9) rfl dX7_remove_16 ?_
    refine lv_iload_n hx hb dX7_remove_19 rfl (lv_at hl 2 rfl) ?_
    obtain ⟨q3, hq3, hf⟩ := obE hf
    refine ct_cVi (rest := []) (tX4_leftOf hD hi hq3) hx hb hml hown ht hX hP hS wX4_leftOf kML_RX7_49 rfl rfl ⟨Nat.le_of_ble_eq_true rfl, Nat.le_of_ble_eq_true rfl⟩ (va_recv hX.1 hP rfl (ct_nodes hi)) rfl hl.1 rfl (Nat.le_of_ble_eq_true rfl) dX7_remove_20 (fun H locs hP hS => ?_)
    refine lv_iconst (v := (-1 : Int32)) hx hb dX7_remove_23 (by decide) ?_
    refine lv_icmp_eq (tgt := 64) hx hb dX7_remove_24 (by decide) (fun hc4 => ?_) (fun hc4 => ?_)
    · rw [if_pos hc4] at hf
      exact blk64 _ _ q2 x1 ls hP hS (lv_sub hl [1, 0] rfl) hf
    · rw [if_neg hc4] at hf
      refine lv_aload_n hx hb dX7_remove_27 rfl (lv_at hl 1 rfl) ?_
      refine va_get (ci := 5) (v := .ref (ad (10 * i + 1))) hx hb ht i_X7 hown hX.1 hP (10 * i) (cw_tree (i := i) hi) rfl 0 (by decide) (ht _ kFL_RX7_12) (fun _ h9 => h9) rfl dX7_remove_28 ?_
      refine lv_iload_n hx hb dX7_remove_31 rfl (lv_at hl 2 rfl) ?_
      obtain ⟨q5, hq5, hf⟩ := obE hf
      refine ct_cVi (rest := []) (tX4_rightOf hD hi hq5) hx hb hml hown ht hX hP hS wX4_rightOf kML_RX7_53 rfl rfl ⟨Nat.le_of_ble_eq_true rfl, Nat.le_of_ble_eq_true rfl⟩ (va_recv hX.1 hP rfl (ct_nodes hi)) rfl hl.1 rfl (Nat.le_of_ble_eq_true rfl) dX7_remove_32 (fun H locs hP hS => ?_)
      refine lv_iconst (v := (-1 : Int32)) hx hb dX7_remove_35 (by decide) ?_
      refine lv_icmp_eq (tgt := 64) hx hb dX7_remove_36 (by decide) (fun hc6 => ?_) (fun hc6 => ?_)
      · rw [if_pos hc6] at hf
        exact blk64 _ _ q2 x1 ls hP hS (lv_sub hl [1, 0] rfl) hf
      · rw [if_neg hc6] at hf
        refine lv_aload_n hx hb dX7_remove_39 rfl (lv_at hl 1 rfl) ?_
        refine va_get (ci := 5) (v := .ref (ad (10 * i + 1))) hx hb ht i_X7 hown hX.1 hP (10 * i) (cw_tree (i := i) hi) rfl 0 (by decide) (ht _ kFL_RX7_12) (fun _ h9 => h9) rfl dX7_remove_40 ?_
        refine lv_aload_n hx hb dX7_remove_43 rfl (lv_at hl 1 rfl) ?_
        refine va_get (ci := 5) (v := .ref (ad (10 * i + 1))) hx hb ht i_X7 hown hX.1 hP (10 * i) (cw_tree (i := i) hi) rfl 0 (by decide) (ht _ kFL_RX7_12) (fun _ h9 => h9) rfl dX7_remove_44 ?_
        refine lv_iload_n hx hb dX7_remove_47 rfl (lv_at hl 2 rfl) ?_
        obtain ⟨q7, hq7, hf⟩ := obE hf
        refine ct_cVi (rest := [.ref (ad (10 * i + 1))]) (tX4_rightOf hD hi hq7) hx hb hml hown ht hX hP hS wX4_rightOf kML_RX7_53 rfl rfl ⟨Nat.le_of_ble_eq_true rfl, Nat.le_of_ble_eq_true rfl⟩ (va_recv hX.1 hP rfl (ct_nodes hi)) rfl hl.1 rfl (Nat.le_of_ble_eq_true rfl) dX7_remove_48 (fun H locs hP hS => ?_)
        obtain ⟨q8, hq8, hf⟩ := obE hf
        refine ct_cVi (rest := []) (tX4_leastBelow hD hi hq8) hx hb hml hown ht hX hP hS wX4_leastBelow kML_RX7_56 rfl rfl ⟨Nat.le_of_ble_eq_true rfl, Nat.le_of_ble_eq_true rfl⟩ (va_recv hX.1 hP rfl (ct_nodes hi)) rfl hl.1 rfl (Nat.le_of_ble_eq_true rfl) dX7_remove_51 (fun H locs hP hS => ?_)
        refine lv_istore_n (lv' := [(2, .int q8), (0, .ref (ad (10 * i))), (1, .int x1)]) hx hb dX7_remove_54 rfl hl (by decide) rfl (fun ls hl => ?_)
        refine lv_aload_n hx hb dX7_remove_55 rfl (lv_at hl 1 rfl) ?_
        refine va_get (ci := 5) (v := .ref (ad (10 * i + 1))) hx hb ht i_X7 hown hX.1 hP (10 * i) (cw_tree (i := i) hi) rfl 0 (by decide) (ht _ kFL_RX7_12) (fun _ h9 => h9) rfl dX7_remove_56 ?_
        refine lv_iload_n hx hb dX7_remove_59 rfl (lv_at hl 0 rfl) ?_
        refine lv_iload_n hx hb dX7_remove_60 rfl (lv_at hl 2 rfl) ?_
        obtain ⟨q9, hq9, hf⟩ := obE hf
        refine ct_cVv (rest := []) (tX4_copyKeyAndWorth hD hi hq9) hx hb hml hown ht hX hP hS wX4_copyKeyAndWorth kML_RX7_59 rfl rfl ⟨Nat.le_of_ble_eq_true rfl, Nat.le_of_ble_eq_true rfl⟩ (va_recv hX.1 hP rfl (ct_nodes hi)) rfl hl.1 rfl (Nat.le_of_ble_eq_true rfl) dX7_remove_61 (fun H locs hP hS => ?_)
        exact blk64 _ _ q9 q8 ls hP hS (lv_sub hl [1, 0] rfl) hf
  · rw [if_pos hc1] at hf
    have e0 := Option.some.inj hf
    subst e0
    exact hret _ _ _ _ hP hS dX7_remove_5
