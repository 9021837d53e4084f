def fX2_next (F : Nat) (σ : Sig) (x1 : Int32) : Option (Int32 × Sig) := if (1 : Int32) ≤ x1 then (if (65536 : Int32) = 0 then none else (if x1 = 0 then none else (some ((((u3 σ 16 (u2 (σ 16) 3 0 ((((((σ 16 3 0).toInt64) * (1103515245 : Int64)) + (12345 : Int64)) &&& (2147483647 : Int64)).toInt32))) 16 3 0) / (65536 : Int32)) - (((u3 σ 16 (u2 (σ 16) 3 0 ((((((σ 16 3 0).toInt64) * (1103515245 : Int64)) + (12345 : Int64)) &&& (2147483647 : Int64)).toInt32))) 16 3 0) / (65536 : Int32)) / x1 * x1, u3 σ 16 (u2 (σ 16) 3 0 ((((((σ 16 3 0).toInt64) * (1103515245 : Int64)) + (12345 : Int64)) &&& (2147483647 : Int64)).toInt32)))))) else (some ((0 : Int32), u3 σ 16 (u2 (σ 16) 3 0 ((((((σ 16 3 0).toInt64) * (1103515245 : Int64)) + (12345 : Int64)) &&& (2147483647 : Int64)).toInt32))))
abbrev rX2_next : Room := { frames := 0, cells := 0, slots := 0, locals := 0 }
theorem wX2_next : kV yX2_next cX2_next 2 (some .int) 1 := ⟨kCO_yX2_next, kIM_yX2_next, kSE_yX2_next, kIN_RX2, by decide +kernel, by decide +kernel, by decide +kernel⟩
set_option maxHeartbeats 4000000 in
set_option maxRecDepth 100000 in
theorem tX2_next {l : Launch} {D : va_G} {cI cT cM : ClassId} {ad : Nat → Nat} (hD : gInj 167 ad) {F : Nat} {σ : Sig} {x1 : Int32} {res : Int32 × Sig} (hf : fX2_next F σ x1 = some res) : CTi l yX2_next cX2_next 2 .int rX2_next D (cTy cI cT cM) (gA 167 ad) [.ref (ad 166), .int x1] (cw cI cT cM ad σ) res.1 (cw cI cT cM ad res.2) := by
  refine ct_int (by decide) (Nat.le_of_ble_eq_true rfl) ?_
  intro p e s m args below meth c Q ls hx hb hml hown ht hX hret hP hS hl
  have hl : lv_has ls 2 [(0, .ref (ad 166)), (1, .int x1)] := hl
  unfold fX2_next at hf
  refine lv_aload_n hx hb dX2_next_0 rfl (lv_at hl 0 rfl) ?_
  refine lv_aload_n hx hb dX2_next_1 rfl (lv_at hl 0 rfl) ?_
  refine va_get (ci := 1) (v := .int (σ 16 3 0)) hx hb ht i_X2 hown hX.1 hP 166 cw_draws rfl 0 (by decide) (ht _ kFL_RX2_7) (fun _ h9 => h9) rfl dX2_next_2 ?_
  refine lv_i2l (v := (σ 16 3 0).toInt64) hx hb dX2_next_5 rfl ?_
  refine lv_ldc2 hx hb hown (ht _ kKJ_RX2_13) dX2_next_6 ?_
  refine lv_lmul hx hb dX2_next_9 ?_
  refine lv_ldc2 hx hb hown (ht _ kKJ_RX2_15) dX2_next_10 ?_
  refine lv_ladd hx hb dX2_next_13 ?_
  refine lv_ldc2 hx hb hown (ht _ kKJ_RX2_17) dX2_next_14 ?_
  refine lv_land hx hb dX2_next_17 ?_
  refine lv_l2i (v := (((((σ 16 3 0).toInt64) * (1103515245 : Int64)) + (12345 : Int64)) &&& (2147483647 : Int64)).toInt32) hx hb dX2_next_18 rfl ?_
  refine cr_putDraw hD hx hb ht hown hX hP hS kFL_RX2_7 dX2_next_19 (fun H locs hP hS => ?_)
  refine lv_iload_n hx hb dX2_next_22 rfl (lv_at hl 1 rfl) ?_
  refine lv_iconst (v := (1 : Int32)) hx hb dX2_next_23 (by decide) ?_
  refine lv_icmp_ge (tgt := 31) hx hb dX2_next_24 (by decide) (fun hc1 => ?_) (fun hc1 => ?_)
  · rw [if_pos hc1] at hf
    refine lv_aload_n hx hb dX2_next_31 rfl (lv_at hl 0 rfl) ?_
    refine va_get (ci := 1) (v := .int ((u3 σ 16 (u2 (σ 16) 3 0 ((((((σ 16 3 0).toInt64) * (1103515245 : Int64)) + (12345 : Int64)) &&& (2147483647 : Int64)).toInt32))) 16 3 0)) hx hb ht i_X2 hown hX.1 hP 166 cw_draws rfl 0 (by decide) (ht _ kFL_RX2_7) (fun _ h9 => h9) rfl dX2_next_32 ?_
    refine lv_ldc hx hb hown (ht _ kKI_RX2_19) dX2_next_35 ?_
    obtain ⟨hq2, hf⟩ := ngE _ hf
    refine lv_idiv hx hb dX2_next_37 hq2 ?_
    refine lv_iload_n hx hb dX2_next_38 rfl (lv_at hl 1 rfl) ?_
    obtain ⟨hq3, hf⟩ := ngE _ hf
    refine lv_irem hx hb dX2_next_39 hq3 ?_
    have e0 := Option.some.inj hf
    subst e0
    exact hret _ _ _ _ hP hS dX2_next_40
  · rw [if_neg hc1] at hf
    refine lv_iconst (v := (0 : Int32)) hx hb dX2_next_27 (by decide) ?_
    refine lv_goto (tgt := 40) hx hb dX2_next_28 (by decide) ?_
    have e0 := Option.some.inj hf
    subst e0
    exact hret _ _ _ _ hP hS dX2_next_40
def fX5_remember_52 (F : Nat) (σ : Sig) (y1 : Int32) : Option (Sig) := some (u3 (u3 σ 16 (u2 (σ 16) 0 0 y1)) 16 (u2 ((u3 σ 16 (u2 (σ 16) 0 0 y1)) 16) 0 1 (if (12 : Int32) < (((u3 σ 16 (u2 (σ 16) 0 0 y1)) 16 0 1) + (1 : Int32)) then (12 : Int32) else ((u3 σ 16 (u2 (σ 16) 0 0 y1)) 16 0 1) + (1 : Int32))))
def fX5_remember (F : Nat) (σ : Sig) : Option (Sig) := if (σ 16 0 0) < 0 then (some σ) else (if (σ 16 0 0) < (12 : Int32) then (if (σ 16 0 0) < 0 ∨ 12 ≤ (σ 16 0 0).toNatClampNeg then none else ((fX7_copyFrom F (σ (2 + (σ 16 0 0).toNatClampNeg)) (σ 0)).bind fun q5 => (if (((u3 σ (2 + (σ 16 0 0).toNatClampNeg) q5) 16 0 0) + (1 : Int32)) = (12 : Int32) then (fX5_remember_52 F (u3 σ (2 + (σ 16 0 0).toNatClampNeg) q5) (0 : Int32)) else (fX5_remember_52 F (u3 σ (2 + (σ 16 0 0).toNatClampNeg) q5) (((u3 σ (2 + (σ 16 0 0).toNatClampNeg) q5) 16 0 0) + (1 : Int32)))))) else (some σ))
abbrev rX5_remember : Room := { frames := 3, cells := 0, slots := 0, locals := 102 }
theorem wX5_remember : kV yX5_remember cX5_remember 2 none 1 := ⟨kCO_yX5_remember, kIM_yX5_remember, kSE_yX5_remember, kIN_RX5, by decide +kernel, by decide +kernel, by decide +kernel⟩
set_option maxHeartbeats 4000000 in
set_option maxRecDepth 100000 in
theorem tX5_remember {l : Launch} {D : va_G} {cI cT cM : ClassId} {ad : Nat → Nat} (hD : gInj 167 ad) {F : Nat} {σ : Sig} {res : Sig} (hf : fX5_remember F σ = some res) : CTv l yX5_remember cX5_remember 2 rX5_remember D (cTy cI cT cM) (gA 167 ad) [.ref (ad 161), .ref (ad (10 * 0))] (cw cI cT cM ad σ) (cw cI cT cM ad res) := by
  refine ct_void (by decide) (Nat.le_of_ble_eq_true rfl) ?_
  intro p e s m args below meth c Q ls hx hb hml hown ht hX hret hP hS hl
  have hl : lv_has ls 2 [(0, .ref (ad 161)), (1, .ref (ad (10 * 0)))] := hl
  have blk52 : ∀ (H : Heap) (locs : List Loc) (σ : Sig) (y1 : Int32) (ls : Array Slot), va_P D vwCl (cw cI cT cM ad σ) H → va_S (gA 167 ad) s.heap H locs → lv_has ls 2 [(0, .ref (ad 161))] → fX5_remember_52 F σ y1 = some res → W p l e rX5_remember s m args below meth c H locs 0 0 Q (F0 m 52 ls [.int y1, .ref (ad 161)]) := by
    intro H locs σ y1 ls hP hS hl hf
    unfold fX5_remember_52 at hf
    refine cr_putPast hD hx hb ht hown hX hP hS (Or.inl ⟨rfl, rfl⟩) kFL_RX5_17 dX5_remember_52 (fun H locs hP hS => ?_)
    refine lv_aload_n hx hb dX5_remember_55 rfl (lv_at hl 0 rfl) ?_
    refine lv_aload_n hx hb dX5_remember_56 rfl (lv_at hl 0 rfl) ?_
    refine va_get (ci := 4) (v := .int ((u3 σ 16 (u2 (σ 16) 0 0 y1)) 16 0 1)) hx hb ht i_X5 hown hX.1 hP 161 cw_past rfl 2 (by decide) (ht _ kFL_RX5_21) (fun _ h9 => h9) rfl dX5_remember_57 ?_
    refine lv_iconst (v := (1 : Int32)) hx hb dX5_remember_60 (by decide) ?_
    refine lv_iadd hx hb dX5_remember_61 ?_
    refine lv_bipush (v := (12 : Int32)) hx hb dX5_remember_62 (by decide) ?_
    refine va_mmin hx hb (hml.trans hl.1.symm) hown (ht _ kML_RX5_29) (ht _ kSM_yJ9_min_7cf53) (ht _ kIN_RJ9) (ht _ kCO_yJ9_min_7cf53) (Nat.le_of_ble_eq_true rfl) (Nat.le_of_ble_eq_true rfl) (Nat.zero_le _) (Nat.zero_le _) dX5_remember_64 ?_
    refine cr_putPast hD hx hb ht hown hX hP hS (Or.inr ⟨rfl, rfl⟩) kFL_RX5_21 dX5_remember_67 (fun H locs hP hS => ?_)
    have e0 := Option.some.inj hf
    subst e0
    exact hret _ _ _ _ hP hS dX5_remember_70
  unfold fX5_remember at hf
  refine lv_aload_n hx hb dX5_remember_0 rfl (lv_at hl 0 rfl) ?_
  refine va_get (ci := 4) (v := .int (σ 16 0 0)) hx hb ht i_X5 hown hX.1 hP 161 cw_past rfl 1 (by decide) (ht _ kFL_RX5_17) (fun _ h9 => h9) rfl dX5_remember_1 ?_
  refine lv_if_lt (tgt := 16) hx hb dX5_remember_4 (by decide) (fun hc1 => ?_) (fun hc1 => ?_)
  · rw [if_pos hc1] at hf
    have e0 := Option.some.inj hf
    subst e0
    exact hret _ _ _ _ hP hS dX5_remember_16
  · rw [if_neg hc1] at hf
    refine lv_aload_n hx hb dX5_remember_7 rfl (lv_at hl 0 rfl) ?_
    refine va_get (ci := 4) (v := .int (σ 16 0 0)) hx hb ht i_X5 hown hX.1 hP 161 cw_past rfl 1 (by decide) (ht _ kFL_RX5_17) (fun _ h9 => h9) rfl dX5_remember_8 ?_
    refine lv_bipush (v := (12 : Int32)) hx hb dX5_remember_11 (by decide) ?_
    refine lv_icmp_lt (tgt := 17) hx hb dX5_remember_13 (by decide) (fun hc2 => ?_) (fun hc2 => ?_)
    · rw [if_pos hc2] at hf
      refine lv_aload_n hx hb dX5_remember_17 rfl (lv_at hl 0 rfl) ?_
      refine va_get (ci := 4) (v := .ref (ad 162)) hx hb ht i_X5 hown hX.1 hP 161 cw_past rfl 0 (by decide) (ht _ kFL_RX5_11) (fun _ h9 => h9) rfl dX5_remember_18 ?_
      refine lv_aload_n hx hb dX5_remember_21 rfl (lv_at hl 0 rfl) ?_
      refine va_get (ci := 4) (v := .int (σ 16 0 0)) hx hb ht i_X5 hown hX.1 hP 161 cw_past rfl 1 (by decide) (ht _ kFL_RX5_17) (fun _ h9 => h9) rfl dX5_remember_22 ?_
      obtain ⟨hn3, hf⟩ := ngE _ hf
      have hb4 : 2 + (σ 16 0 0).toNatClampNeg < 16 := by have := Nat.not_le.mp fun q => hn3 (Or.inr q); omega
      refine va_aldq hx hb hX.1 hP 162 1 cw_rows rfl hn3 dX5_remember_25 ?_
      refine W.eq (g2 := F0 m 26 ls [.ref (ad (10 * (2 + (σ 16 0 0).toNatClampNeg)))]) rfl ?_
      refine lv_aload_n hx hb dX5_remember_26 rfl (lv_at hl 1 rfl) ?_
      obtain ⟨q5, hq5, hf⟩ := obE hf
      refine ct_cVv (rest := []) (tX7_copyFrom hD hb4 (by decide) (by omega) hq5) hx hb hml hown ht hX (P_u3 (2 + (σ 16 0 0).toNatClampNeg) hP) hS wX7_copyFrom kML_RX5_25 rfl rfl ⟨Nat.le_of_ble_eq_true rfl, Nat.le_of_ble_eq_true rfl⟩ (va_recv hX.1 hP rfl (cw_tree (i := (2 + (σ 16 0 0).toNatClampNeg)) hb4)) rfl hl.1 rfl (Nat.le_of_ble_eq_true rfl) dX5_remember_27 (fun H locs hP hS => ?_)
      refine lv_aload_n hx hb dX5_remember_30 rfl (lv_at hl 0 rfl) ?_
      refine lv_aload_n hx hb dX5_remember_31 rfl (lv_at hl 0 rfl) ?_
      refine va_get (ci := 4) (v := .int ((u3 σ (2 + (σ 16 0 0).toNatClampNeg) q5) 16 0 0)) hx hb ht i_X5 hown hX.1 hP 161 cw_past rfl 1 (by decide) (ht _ kFL_RX5_17) (fun _ h9 => h9) rfl dX5_remember_32 ?_
      refine lv_iconst (v := (1 : Int32)) hx hb dX5_remember_35 (by decide) ?_
      refine lv_iadd hx hb dX5_remember_36 ?_
      refine lv_bipush (v := (12 : Int32)) hx hb dX5_remember_37 (by decide) ?_
      refine lv_icmp_ne (tgt := 46) hx hb dX5_remember_39 (by decide) (fun hc6 => ?_) (fun hc6 => ?_)
      · rw [if_neg hc6] at hf
        refine lv_aload_n hx hb dX5_remember_46 rfl (lv_at hl 0 rfl) ?_
        refine va_get (ci := 4) (v := .int ((u3 σ (2 + (σ 16 0 0).toNatClampNeg) q5) 16 0 0)) hx hb ht i_X5 hown hX.1 hP 161 cw_past rfl 1 (by decide) (ht _ kFL_RX5_17) (fun _ h9 => h9) rfl dX5_remember_47 ?_
        refine lv_iconst (v := (1 : Int32)) hx hb dX5_remember_50 (by decide) ?_
        refine lv_iadd hx hb dX5_remember_51 ?_
        exact blk52 _ _ (u3 σ (2 + (σ 16 0 0).toNatClampNeg) q5) (((u3 σ (2 + (σ 16 0 0).toNatClampNeg) q5) 16 0 0) + (1 : Int32)) ls hP hS (lv_sub hl [0] rfl) hf
      · rw [if_pos hc6] at hf
        refine lv_iconst (v := (0 : Int32)) hx hb dX5_remember_42 (by decide) ?_
        refine lv_goto (tgt := 52) hx hb dX5_remember_43 (by decide) ?_
        exact blk52 _ _ (u3 σ (2 + (σ 16 0 0).toNatClampNeg) q5) (0 : Int32) ls hP hS (lv_sub hl [0] rfl) hf
    · rw [if_neg hc2] at hf
      have e0 := Option.some.inj hf
      subst e0
      exact hret _ _ _ _ hP hS dX5_remember_16
def fX5_restore_27 (F : Nat) (σ : Sig) (x2 : Int32) (y0 : Int32) : Option (Sig) := if (σ 16 0 1) < x2 then (some σ) else (if y0 < 0 then (some σ) else (if y0 < (12 : Int32) then (if y0 < 0 ∨ 12 ≤ y0.toNatClampNeg then none else ((fX7_copyFrom F (σ 0) (σ (2 + y0.toNatClampNeg))).bind fun q7 => (some (u3 (u3 (u3 σ 0 q7) 16 (u2 ((u3 σ 0 q7) 16) 0 0 y0)) 16 (u2 ((u3 (u3 σ 0 q7) 16 (u2 ((u3 σ 0 q7) 16) 0 0 y0)) 16) 0 1 (((u3 (u3 σ 0 q7) 16 (u2 ((u3 σ 0 q7) 16) 0 0 y0)) 16 0 1) - x2)))))) else (some σ)))
def fX5_restore (F : Nat) (σ : Sig) (x2 : Int32) : Option (Sig) := if 0 ≤ ((σ 16 0 0) - x2) then (fX5_restore_27 F σ x2 ((σ 16 0 0) - x2)) else (fX5_restore_27 F σ x2 (((σ 16 0 0) - x2) + (12 : Int32)))
abbrev rX5_restore : Room := { frames := 3, cells := 0, slots := 0, locals := 102 }
theorem wX5_restore : kV yX5_restore cX5_restore 4 none 2 := ⟨kCO_yX5_restore, kIM_yX5_restore, kSE_yX5_restore, kIN_RX5, by decide +kernel, by decide +kernel, by decide +kernel⟩
set_option maxHeartbeats 4000000 in
set_option maxRecDepth 100000 in
theorem tX5_restore {l : Launch} {D : va_G} {cI cT cM : ClassId} {ad : Nat → Nat} (hD : gInj 167 ad) {F : Nat} {σ : Sig} {x2 : Int32} {res : Sig} (hf : fX5_restore F σ x2 = some res) : CTv l yX5_restore cX5_restore 4 rX5_restore D (cTy cI cT cM) (gA 167 ad) [.ref (ad 161), .ref (ad (10 * 0)), .int x2] (cw cI cT cM ad σ) (cw cI cT cM ad res) := by
  refine ct_void (by decide) (Nat.le_of_ble_eq_true rfl) ?_
  intro p e s m args below meth c Q ls hx hb hml hown ht hX hret hP hS hl
  have hl : lv_has ls 4 [(0, .ref (ad 161)), (1, .ref (ad (10 * 0))), (2, .int x2)] := hl
  have blk27 : ∀ (H : Heap) (locs : List Loc) (σ : Sig) (x2 : Int32) (y0 : Int32) (ls : Array Slot), va_P D vwCl (cw cI cT cM ad σ) H → va_S (gA 167 ad) s.heap H locs → lv_has ls 4 [(0, .ref (ad 161)), (1, .ref (ad (10 * 0))), (2, .int x2)] → fX5_restore_27 F σ x2 y0 = some res → W p l e rX5_restore s m args below meth c H locs 0 0 Q (F0 m 27 ls [.int y0]) := by
    intro H locs σ x2 y0 ls hP hS hl hf
    unfold fX5_restore_27 at hf
    refine lv_istore_n (lv' := [(3, .int y0), (0, .ref (ad 161)), (1, .ref (ad (10 * 0))), (2, .int x2)]) hx hb dX5_restore_27 rfl hl (by decide) rfl (fun ls hl => ?_)
    refine lv_iload_n hx hb dX5_restore_28 rfl (lv_at hl 3 rfl) ?_
    refine lv_aload_n hx hb dX5_restore_29 rfl (lv_at hl 1 rfl) ?_
    refine va_get (ci := 4) (v := .int (σ 16 0 1)) hx hb ht i_X5 hown hX.1 hP 161 cw_past rfl 2 (by decide) (ht _ kFL_RX5_21) (fun _ h9 => h9) rfl dX5_restore_30 ?_
    refine lv_icmp_gt (tgt := 46) hx hb dX5_restore_33 (by decide) (fun hc2 => ?_) (fun hc2 => ?_)
    · rw [if_pos hc2] at hf
      have e0 := Option.some.inj hf
      subst e0
      exact hret _ _ _ _ hP hS dX5_restore_46
    · rw [if_neg hc2] at hf
      refine lv_iload_n hx hb dX5_restore_36 rfl (lv_at hl 0 rfl) ?_
      refine lv_if_lt (tgt := 46) hx hb dX5_restore_37 (by decide) (fun hc3 => ?_) (fun hc3 => ?_)
      · rw [if_pos hc3] at hf
        have e0 := Option.some.inj hf
        subst e0
        exact hret _ _ _ _ hP hS dX5_restore_46
      · rw [if_neg hc3] at hf
        refine lv_iload_n hx hb dX5_restore_40 rfl (lv_at hl 0 rfl) ?_
        refine lv_bipush (v := (12 : Int32)) hx hb dX5_restore_41 (by decide) ?_
        refine lv_icmp_lt (tgt := 47) hx hb dX5_restore_43 (by decide) (fun hc4 => ?_) (fun hc4 => ?_)
        · rw [if_pos hc4] at hf
          refine lv_aload_n hx hb dX5_restore_47 rfl (lv_at hl 2 rfl) ?_
          refine lv_aload_n hx hb dX5_restore_48 rfl (lv_at hl 1 rfl) ?_
          refine va_get (ci := 4) (v := .ref (ad 162)) hx hb ht i_X5 hown hX.1 hP 161 cw_past rfl 0 (by decide) (ht _ kFL_RX5_11) (fun _ h9 => h9) rfl dX5_restore_49 ?_
          refine lv_iload_n hx hb dX5_restore_52 rfl (lv_at hl 0 rfl) ?_
          obtain ⟨hn5, hf⟩ := ngE _ hf
          have hb6 : 2 + y0.toNatClampNeg < 16 := by have := Nat.not_le.mp fun q => hn5 (Or.inr q); omega
          refine va_aldq hx hb hX.1 hP 162 1 cw_rows rfl hn5 dX5_restore_53 ?_
          refine W.eq (g2 := F0 m 54 ls [.ref (ad (10 * (2 + y0.toNatClampNeg))), .ref (ad (10 * 0))]) rfl ?_
          obtain ⟨q7, hq7, hf⟩ := obE hf
          refine ct_cVv (rest := []) (tX7_copyFrom hD (by decide) hb6 (by omega) hq7) hx hb hml hown ht hX (P_u3 0 hP) hS wX7_copyFrom kML_RX5_25 rfl rfl ⟨Nat.le_of_ble_eq_true rfl, Nat.le_of_ble_eq_true rfl⟩ (va_recv hX.1 hP rfl (cw_tree (i := 0) (by decide))) rfl hl.1 rfl (Nat.le_of_ble_eq_true rfl) dX5_restore_54 (fun H locs hP hS => ?_)
          refine lv_aload_n hx hb dX5_restore_57 rfl (lv_at hl 1 rfl) ?_
          refine lv_iload_n hx hb dX5_restore_58 rfl (lv_at hl 0 rfl) ?_
          refine cr_putPast hD hx hb ht hown hX hP hS (Or.inl ⟨rfl, rfl⟩) kFL_RX5_17 dX5_restore_59 (fun H locs hP hS => ?_)
          refine lv_aload_n hx hb dX5_restore_62 rfl (lv_at hl 1 rfl) ?_
          refine lv_dup hx hb dX5_restore_63 rfl ?_
          refine va_get (ci := 4) (v := .int ((u3 (u3 σ 0 q7) 16 (u2 ((u3 σ 0 q7) 16) 0 0 y0)) 16 0 1)) hx hb ht i_X5 hown hX.1 hP 161 cw_past rfl 2 (by decide) (ht _ kFL_RX5_21) (fun _ h9 => h9) rfl dX5_restore_64 ?_
          refine lv_iload_n hx hb dX5_restore_67 rfl (lv_at hl 3 rfl) ?_
          refine lv_isub hx hb dX5_restore_68 ?_
          refine cr_putPast hD hx hb ht hown hX hP hS (Or.inr ⟨rfl, rfl⟩) kFL_RX5_21 dX5_restore_69 (fun H locs hP hS => ?_)
          have e0 := Option.some.inj hf
          subst e0
          exact hret _ _ _ _ hP hS dX5_restore_72
        · rw [if_neg hc4] at hf
          have e0 := Option.some.inj hf
          subst e0
          exact hret _ _ _ _ hP hS dX5_restore_46
  unfold fX5_restore at hf
  refine lv_aload_n hx hb dX5_restore_0 rfl (lv_at hl 0 rfl) ?_
  refine va_get (ci := 4) (v := .int (σ 16 0 0)) hx hb ht i_X5 hown hX.1 hP 161 cw_past rfl 1 (by decide) (ht _ kFL_RX5_17) (fun _ h9 => h9) rfl dX5_restore_1 ?_
  refine lv_iload_n hx hb dX5_restore_4 rfl (lv_at hl 2 rfl) ?_
  refine lv_isub hx hb dX5_restore_5 ?_
  refine lv_if_ge (tgt := 21) hx hb dX5_restore_6 (by decide) (fun hc1 => ?_) (fun hc1 => ?_)
  · rw [if_pos hc1] at hf
    refine lv_aload_n hx hb dX5_restore_21 rfl (lv_at hl 0 rfl) ?_
    refine va_get (ci := 4) (v := .int (σ 16 0 0)) hx hb ht i_X5 hown hX.1 hP 161 cw_past rfl 1 (by decide) (ht _ kFL_RX5_17) (fun _ h9 => h9) rfl dX5_restore_22 ?_
    refine lv_iload_n hx hb dX5_restore_25 rfl (lv_at hl 2 rfl) ?_
    refine lv_isub hx hb dX5_restore_26 ?_
    exact blk27 _ _ σ x2 ((σ 16 0 0) - x2) ls hP hS (lv_sub hl [0, 1, 2] rfl) hf
  · rw [if_neg hc1] at hf
    refine lv_aload_n hx hb dX5_restore_9 rfl (lv_at hl 0 rfl) ?_
    refine va_get (ci := 4) (v := .int (σ 16 0 0)) hx hb ht i_X5 hown hX.1 hP 161 cw_past rfl 1 (by decide) (ht _ kFL_RX5_17) (fun _ h9 => h9) rfl dX5_restore_10 ?_
    refine lv_iload_n hx hb dX5_restore_13 rfl (lv_at hl 2 rfl) ?_
    refine lv_isub hx hb dX5_restore_14 ?_
    refine lv_bipush (v := (12 : Int32)) hx hb dX5_restore_15 (by decide) ?_
    refine lv_iadd hx hb dX5_restore_17 ?_
    refine lv_goto (tgt := 27) hx hb dX5_restore_18 (by decide) ?_
    exact blk27 _ _ σ x2 (((σ 16 0 0) - x2) + (12 : Int32)) ls hP hS (lv_sub hl [0, 1, 2] rfl) hf
def fX5_forget (F : Nat) (σ : Sig) : Option (Sig) := some (u3 σ 16 (u2 (σ 16) 0 1 (0 : Int32)))
abbrev rX5_forget : Room := { frames := 0, cells := 0, slots := 0, locals := 0 }
theorem wX5_forget : kV yX5_forget cX5_forget 1 none 0 := ⟨kCO_yX5_forget, kIM_yX5_forget, kSE_yX5_forget, kIN_RX5, by decide +kernel, by decide +kernel, by decide +kernel⟩
set_option maxHeartbeats 4000000 in
set_option maxRecDepth 100000 in
theorem tX5_forget {l : Launch} {D : va_G} {cI cT cM : ClassId} {ad : Nat → Nat} (hD : gInj 167 ad) {F : Nat} {σ : Sig} {res : Sig} (hf : fX5_forget F σ = some res) : CTv l yX5_forget cX5_forget 1 rX5_forget D (cTy cI cT cM) (gA 167 ad) [.ref (ad 161)] (cw cI cT cM ad σ) (cw cI cT cM ad res) := by
  refine ct_void (by decide) (Nat.le_of_ble_eq_true rfl) ?_
  intro p e s m args below meth c Q ls hx hb hml hown ht hX hret hP hS hl
  have hl : lv_has ls 1 [(0, .ref (ad 161))] := hl
  unfold fX5_forget at hf
  refine lv_aload_n hx hb dX5_forget_0 rfl (lv_at hl 0 rfl) ?_
  refine lv_iconst (v := (0 : Int32)) hx hb dX5_forget_1 (by decide) ?_
  refine cr_putPast hD hx hb ht hown hX hP hS (Or.inr ⟨rfl, rfl⟩) kFL_RX5_21 dX5_forget_2 (fun H locs hP hS => ?_)
  have e0 := Option.some.inj hf
  subst e0
  exact hret _ _ _ _ hP hS dX5_forget_5
def fX8_costliestKey_96 (F : Nat) (k28 : Sig → Int32 → Int32 → Int32 → Int32 → Option (Int32 × Sig)) (σ : Sig) (x1 : Int32) (x2 : Int32) (x3 : Int32) (x4 : Int32) : Option (Int32 × Sig) := (fX4_nextRising F (σ 0) x3).bind fun q10 => (k28 σ x1 x2 q10 (x4 + (1 : Int32)))
def fX8_costliestKey_28 (F : Nat) : Nat → Sig → Int32 → Int32 → Int32 → Int32 → Option (Int32 × Sig)
  | 0, _, _, _, _, _ => none
  | n + 1, σ, x1, x2, x3, x4 => if (60 : Int32) ≤ x4 then (some (x1, σ)) else (if x3 = (-1 : Int32) then (some (x1, σ)) else ((fX7_copyFrom F (σ 1) (σ 0)).bind fun q4 => ((fX7_remove F ((u3 σ 1 q4) 1) x3).bind fun q5 => ((fX1_together F ((u3 (u3 σ 1 q4) 1 q5) 1) 8).bind fun q6 => (if q6 ≤ x2 then (fX8_costliestKey_96 F (fun σ x1 x2 x3 x4 => fX8_costliestKey_28 F n σ x1 x2 x3 x4) (u3 (u3 σ 1 q4) 1 q5) x1 x2 x3 x4) else ((fX1_together F ((u3 (u3 σ 1 q4) 1 q5) 1) 8).bind fun q8 => ((fX4_keyOf F ((u3 (u3 σ 1 q4) 1 q5) 0) x3).bind fun q9 => (fX8_costliestKey_96 F (fun σ x1 x2 x3 x4 => fX8_costliestKey_28 F n σ x1 x2 x3 x4) (u3 (u3 σ 1 q4) 1 q5) q9 q8 x3 x4))))))))
def fX8_costliestKey (F : Nat) (σ : Sig) : Option (Int32 × Sig) := (fX4_leastBelow F (σ 0) (σ 0 6 0)).bind fun q1 => (fX8_costliestKey_28 F F σ (-1 : Int32) (-1 : Int32) q1 (0 : Int32))
abbrev rX8_costliestKey : Room := { frames := 5, cells := 0, slots := 0, locals := 123 }
theorem wX8_costliestKey : kV yX8_costliestKey cX8_costliestKey 5 (some .int) 0 := ⟨kCO_yX8_costliestKey, kIM_yX8_costliestKey, kSE_yX8_costliestKey, kIN_RX8, by decide +kernel, by decide +kernel, by decide +kernel⟩
set_option maxHeartbeats 4000000 in
set_option maxRecDepth 100000 in
theorem tX8_costliestKey {l : Launch} {D : va_G} {cI cT cM : ClassId} {ad : Nat → Nat} (hD : gInj 167 ad) {F : Nat} {σ : Sig} {res : Int32 × Sig} (hf : fX8_costliestKey F σ = some res) : CTi l yX8_costliestKey cX8_costliestKey 5 .int rX8_costliestKey D (cTy cI cT cM) (gA 167 ad) [.ref (ad 160)] (cw cI cT cM ad σ) res.1 (cw cI cT cM ad res.2) := by
  refine ct_int (by decide) (Nat.le_of_ble_eq_true rfl) ?_
  intro p e s m args below meth c Q ls hx hb hml hown ht hX hret hP hS hl
  have hl : lv_has ls 5 [(0, .ref (ad 160))] := hl
  have blk28 : ∀ (n28 : Nat) (H : Heap) (locs : List Loc) (σ : Sig) (x1 : Int32) (x2 : Int32) (x3 : Int32) (x4 : Int32) (ls : Array Slot), va_P D vwCl (cw cI cT cM ad σ) H → va_S (gA 167 ad) s.heap H locs → lv_has ls 5 [(0, .ref (ad 160)), (1, .int x1), (2, .int x2), (3, .int x3), (4, .int x4)] → fX8_costliestKey_28 F n28 σ x1 x2 x3 x4 = some res → W p l e rX8_costliestKey s m args below meth c H locs 0 0 Q (F0 m 28 ls []) := by
    intro n28
    induction n28 with
    | zero =>
      intro H locs σ x1 x2 x3 x4 ls hP hS hl hf
      rw [fX8_costliestKey_28] at hf
      cases hf
    | succ n28 ih28 =>
      skip
      have blk96 : ∀ (H : Heap) (locs : List Loc) (σ : Sig) (x1 : Int32) (x2 : Int32) (x3 : Int32) (x4 : Int32) (ls : Array Slot), va_P D vwCl (cw cI cT cM ad σ) H → va_S (gA 167 ad) s.heap H locs → lv_has ls 5 [(0, .ref (ad 160)), (1, .int x1), (2, .int x2), (3, .int x3), (4, .int x4)] → fX8_costliestKey_96 F (fun σ x1 x2 x3 x4 => fX8_costliestKey_28 F n28 σ x1 x2 x3 x4) σ x1 x2 x3 x4 = some res → W p l e rX8_costliestKey s m args below meth c H locs 0 0 Q (F0 m 96 ls []) := by
        intro H locs σ x1 x2 x3 x4 ls hP hS hl hf
        unfold fX8_costliestKey_96 at hf
        refine lv_aload_n hx hb dX8_costliestKey_96 rfl (lv_at hl 0 rfl) ?_
        refine va_get (ci := 6) (v := .ref (ad (10 * 0))) hx hb ht i_X8 hown hX.1 hP 160 cw_ri rfl 0 (by decide) (ht _ kFL_RX8_10) (fun _ h9 => h9) rfl dX8_costliestKey_97 ?_
        refine va_get (ci := 5) (v := .ref (ad (10 * 0 + 1))) hx hb ht i_X7 hown hX.1 hP (10 * 0) (cw_tree (i := 0) (by decide)) rfl 0 (by decide) (ht _ kFL_RX8_40) (fun _ h9 => h9) rfl dX8_costliestKey_100 ?_
        refine lv_iload_n hx hb dX8_costliestKey_103 rfl (lv_at hl 3 rfl) ?_
        obtain ⟨q10, hq10, hf⟩ := obE hf
        refine ct_cVi (rest := []) (tX4_nextRising hD (by decide) hq10) hx hb hml hown ht hX (P_u3 0 hP) hS wX4_nextRising kML_RX8_150 rfl rfl ⟨Nat.le_of_ble_eq_true rfl, Nat.le_of_ble_eq_true rfl⟩ (va_recv hX.1 hP rfl (cw_nodes (i := 0) (by decide))) rfl hl.1 rfl (Nat.le_of_ble_eq_true rfl) dX8_costliestKey_104 (fun H locs hP hS => ?_)
        rw [u3_self] at hP
        refine lv_istore_n (lv' := [(3, .int q10), (0, .ref (ad 160)), (1, .int x1), (2, .int x2), (4, .int x4)]) hx hb dX8_costliestKey_107 rfl hl (by decide) rfl (fun ls hl => ?_)
        refine lv_iinc (v := x4 + (1 : Int32)) (lv' := [(4, .int (x4 + (1 : Int32))), (3, .int q10), (0, .ref (ad 160)), (1, .int x1), (2, .int x2)]) hx hb dX8_costliestKey_108 hl (k := 4) rfl rfl (by decide) rfl (fun ls hl => ?_)
        refine lv_goto (tgt := 28) hx hb dX8_costliestKey_111 (by decide) ?_
        exact ih28 _ _ σ x1 x2 q10 (x4 + (1 : Int32)) ls hP hS (lv_sub hl [2, 3, 4, 1, 0] rfl) hf
      intro H locs σ x1 x2 x3 x4 ls hP hS hl hf
      rw [fX8_costliestKey_28] at hf
      refine lv_iload hx hb dX8_costliestKey_28 (lv_at hl 4 rfl) ?_
      refine lv_bipush (v := (60 : Int32)) hx hb dX8_costliestKey_30 (by decide) ?_
      refine lv_icmp_ge (tgt := 114) hx hb dX8_costliestKey_32 (by decide) (fun hc2 => ?_) (fun hc2 => ?_)
      · rw [if_pos hc2] at hf
        refine lv_iload_n hx hb dX8_costliestKey_114 rfl (lv_at hl 1 rfl) ?_
        have e0 := Option.some.inj hf
        subst e0
        exact hret _ _ _ _ hP hS dX8_costliestKey_115
      · rw [if_neg hc2] at hf
        refine lv_iload_n hx hb dX8_costliestKey_35 rfl (lv_at hl 3 rfl) ?_
        refine lv_iconst (v := (-1 : Int32)) hx hb dX8_costliestKey_36 (by decide) ?_
        refine lv_icmp_eq (tgt := 114) hx hb dX8_costliestKey_37 (by decide) (fun hc3 => ?_) (fun hc3 => ?_)
        · rw [if_pos hc3] at hf
          refine lv_iload_n hx hb dX8_costliestKey_114 rfl (lv_at hl 1 rfl) ?_
          have e0 := Option.some.inj hf
          subst e0
          exact hret _ _ _ _ hP hS dX8_costliestKey_115
        · rw [if_neg hc3] at hf
          refine lv_aload_n hx hb dX8_costliestKey_40 rfl (lv_at hl 0 rfl) ?_
          refine va_get (ci := 6) (v := .ref (ad (10 * 1))) hx hb ht i_X8 hown hX.1 hP 160 cw_ri rfl 1 (by decide) (ht _ kFL_RX8_16) (fun _ h9 => h9) rfl dX8_costliestKey_41 ?_
          refine lv_aload_n hx hb dX8_costliestKey_44 rfl (lv_at hl 0 rfl) ?_
          refine va_get (ci := 6) (v := .ref (ad (10 * 0))) hx hb ht i_X8 hown hX.1 hP 160 cw_ri rfl 0 (by decide) (ht _ kFL_RX8_10) (fun _ h9 => h9) rfl dX8_costliestKey_45 ?_
          obtain ⟨q4, hq4, hf⟩ := obE hf
          refine ct_cVv (rest := []) (tX7_copyFrom hD (by decide) (by decide) (by decide) hq4) hx hb hml hown ht hX (P_u3 1 hP) hS wX7_copyFrom kML_RX8_192 rfl rfl ⟨Nat.le_of_ble_eq_true rfl, Nat.le_of_ble_eq_true rfl⟩ (va_recv hX.1 hP rfl (cw_tree (i := 1) (by decide))) rfl hl.1 rfl (Nat.le_of_ble_eq_true rfl) dX8_costliestKey_48 (fun H locs hP hS => ?_)
          refine lv_aload_n hx hb dX8_costliestKey_51 rfl (lv_at hl 0 rfl) ?_
          refine va_get (ci := 6) (v := .ref (ad (10 * 1))) hx hb ht i_X8 hown hX.1 hP 160 cw_ri rfl 1 (by decide) (ht _ kFL_RX8_16) (fun _ h9 => h9) rfl dX8_costliestKey_52 ?_
          refine lv_iload_n hx hb dX8_costliestKey_55 rfl (lv_at hl 3 rfl) ?_
          obtain ⟨q5, hq5, hf⟩ := obE hf
          refine ct_cVv (rest := []) (tX7_remove hD (by decide) hq5) hx hb hml hown ht hX (P_u3 1 hP) hS wX7_remove kML_RX8_177 rfl rfl ⟨Nat.le_of_ble_eq_true rfl, Nat.le_of_ble_eq_true rfl⟩ (va_recv hX.1 hP rfl (cw_tree (i := 1) (by decide))) rfl hl.1 rfl (Nat.le_of_ble_eq_true rfl) dX8_costliestKey_56 (fun H locs hP hS => ?_)
          refine lv_aload_n hx hb dX8_costliestKey_59 rfl (lv_at hl 0 rfl) ?_
          refine va_get (ci := 6) (v := .ref (ad (10 * 1))) hx hb ht i_X8 hown hX.1 hP 160 cw_ri rfl 1 (by decide) (ht _ kFL_RX8_16) (fun _ h9 => h9) rfl dX8_costliestKey_60 ?_
          refine va_get (ci := 5) (v := .ref (ad (10 * 1 + (1 + 8)))) hx hb ht i_X7 hown hX.1 hP (10 * 1) (cw_tree (i := 1) (by decide)) rfl 2 (by decide) (ht _ kFL_RX8_86) (fun _ h9 => h9) rfl dX8_costliestKey_63 ?_
          obtain ⟨q6, hq6, hf⟩ := obE hf
          refine ct_cVi (rest := []) (tX1_together hD (by decide) (Or.inr rfl) hq6) hx hb hml hown ht hX (P_u3 1 hP) hS wX1_together kML_RX8_250 rfl rfl ⟨Nat.le_of_ble_eq_true rfl, Nat.le_of_ble_eq_true rfl⟩ (va_recv hX.1 hP rfl (cw_cnt (i := 1) (by decide) (Or.inr rfl))) rfl hl.1 rfl (Nat.le_of_ble_eq_true rfl) dX8_costliestKey_66 (fun H locs hP hS => ?_)
          rw [u3_self] at hP
          refine lv_iload_n hx hb dX8_costliestKey_69 rfl (lv_at hl 2 rfl) ?_
          refine lv_icmp_le (tgt := 96) hx hb dX8_costliestKey_70 (by decide) (fun hc7 => ?_) (fun hc7 => ?_)
          · rw [if_pos hc7] at hf
            exact blk96 _ _ (u3 (u3 σ 1 q4) 1 q5) x1 x2 x3 x4 ls hP hS (lv_sub hl [0, 1, 2, 3, 4] rfl) hf
          · rw [if_neg hc7] at hf
            refine lv_aload_n hx hb dX8_costliestKey_73 rfl (lv_at hl 0 rfl) ?_
            refine va_get (ci := 6) (v := .ref (ad (10 * 1))) hx hb ht i_X8 hown hX.1 hP 160 cw_ri rfl 1 (by decide) (ht _ kFL_RX8_16) (fun _ h9 => h9) rfl dX8_costliestKey_74 ?_
            refine va_get (ci := 5) (v := .ref (ad (10 * 1 + (1 + 8)))) hx hb ht i_X7 hown hX.1 hP (10 * 1) (cw_tree (i := 1) (by decide)) rfl 2 (by decide) (ht _ kFL_RX8_86) (fun _ h9 => h9) rfl dX8_costliestKey_77 ?_
            obtain ⟨q8, hq8, hf⟩ := obE hf
            refine ct_cVi (rest := []) (tX1_together hD (by decide) (Or.inr rfl) hq8) hx hb hml hown ht hX (P_u3 1 hP) hS wX1_together kML_RX8_250 rfl rfl ⟨Nat.le_of_ble_eq_true rfl, Nat.le_of_ble_eq_true rfl⟩ (va_recv hX.1 hP rfl (cw_cnt (i := 1) (by decide) (Or.inr rfl))) rfl hl.1 rfl (Nat.le_of_ble_eq_true rfl) dX8_costliestKey_80 (fun H locs hP hS => ?_)
            rw [u3_self] at hP
            refine lv_istore_n (lv' := [(2, .int q8), (0, .ref (ad 160)), (1, .int x1), (3, .int x3), (4, .int x4)]) hx hb dX8_costliestKey_83 rfl hl (by decide) rfl (fun ls hl => ?_)
            refine lv_aload_n hx hb dX8_costliestKey_84 rfl (lv_at hl 1 rfl) ?_
            refine va_get (ci := 6) (v := .ref (ad (10 * 0))) hx hb ht i_X8 hown hX.1 hP 160 cw_ri rfl 0 (by decide) (ht _ kFL_RX8_10) (fun _ h9 => h9) rfl dX8_costliestKey_85 ?_
            refine va_get (ci := 5) (v := .ref (ad (10 * 0 + 1))) hx hb ht i_X7 hown hX.1 hP (10 * 0) (cw_tree (i := 0) (by decide)) rfl 0 (by decide) (ht _ kFL_RX8_40) (fun _ h9 => h9) rfl dX8_costliestKey_88 ?_
            refine lv_iload_n hx hb dX8_costliestKey_91 rfl (lv_at hl 3 rfl) ?_
            obtain ⟨q9, hq9, hf⟩ := obE hf
            refine ct_cVi (rest := []) (tX4_keyOf hD (by decide) hq9) hx hb hml hown ht hX (P_u3 0 hP) hS wX4_keyOf kML_RX8_53 rfl rfl ⟨Nat.le_of_ble_eq_true rfl, Nat.le_of_ble_eq_true rfl⟩ (va_recv hX.1 hP rfl (cw_nodes (i := 0) (by decide))) rfl hl.1 rfl (Nat.le_of_ble_eq_true rfl) dX8_costliestKey_92 (fun H locs hP hS => ?_)
            rw [u3_self] at hP
            refine lv_istore_n (lv' := [(1, .int q9), (2, .int q8), (0, .ref (ad 160)), (3, .int x3), (4, .int x4)]) hx hb dX8_costliestKey_95 rfl hl (by decide) rfl (fun ls hl => ?_)
            exact blk96 _ _ (u3 (u3 σ 1 q4) 1 q5) q9 q8 x3 x4 ls hP hS (lv_sub hl [2, 0, 1, 3, 4] rfl) hf
  unfold fX8_costliestKey at hf
  refine lv_iconst (v := (-1 : Int32)) hx hb dX8_costliestKey_0 (by decide) ?_
  refine lv_istore_n (lv' := [(1, .int ((-1 : Int32))), (0, .ref (ad 160))]) hx hb dX8_costliestKey_1 rfl hl (by decide) rfl (fun ls hl => ?_)
  refine lv_iconst (v := (-1 : Int32)) hx hb dX8_costliestKey_2 (by decide) ?_
  refine lv_istore_n (lv' := [(2, .int ((-1 : Int32))), (1, .int ((-1 : Int32))), (0, .ref (ad 160))]) hx hb dX8_costliestKey_3 rfl hl (by decide) rfl (fun ls hl => ?_)
  refine lv_aload_n hx hb dX8_costliestKey_4 rfl (lv_at hl 2 rfl) ?_
  refine va_get (ci := 6) (v := .ref (ad (10 * 0))) hx hb ht i_X8 hown hX.1 hP 160 cw_ri rfl 0 (by decide) (ht _ kFL_RX8_10) (fun _ h9 => h9) rfl dX8_costliestKey_5 ?_
  refine va_get (ci := 5) (v := .ref (ad (10 * 0 + 1))) hx hb ht i_X7 hown hX.1 hP (10 * 0) (cw_tree (i := 0) (by decide)) rfl 0 (by decide) (ht _ kFL_RX8_40) (fun _ h9 => h9) rfl dX8_costliestKey_8 ?_
  refine lv_aload_n hx hb dX8_costliestKey_11 rfl (lv_at hl 2 rfl) ?_
  refine va_get (ci := 6) (v := .ref (ad (10 * 0))) hx hb ht i_X8 hown hX.1 hP 160 cw_ri rfl 0 (by decide) (ht _ kFL_RX8_10) (fun _ h9 => h9) rfl dX8_costliestKey_12 ?_
  refine va_get (ci := 5) (v := .ref (ad (10 * 0 + 1))) hx hb ht i_X7 hown hX.1 hP (10 * 0) (cw_tree (i := 0) (by decide)) rfl 0 (by decide) (ht _ kFL_RX8_40) (fun _ h9 => h9) rfl dX8_costliestKey_15 ?_
  refine va_get (ci := 3) (v := .int (σ 0 6 0)) hx hb ht i_X4 hown hX.1 hP (10 * 0 + 1) (cw_nodes (i := 0) (by decide)) rfl 6 (by decide) (ht _ kFL_RX8_50) (fun _ h9 => h9) rfl dX8_costliestKey_18 ?_
  obtain ⟨q1, hq1, hf⟩ := obE hf
  refine ct_cVi (rest := []) (tX4_leastBelow hD (by decide) hq1) hx hb hml hown ht hX (P_u3 0 hP) hS wX4_leastBelow kML_RX8_147 rfl rfl ⟨Nat.le_of_ble_eq_true rfl, Nat.le_of_ble_eq_true rfl⟩ (va_recv hX.1 hP rfl (cw_nodes (i := 0) (by decide))) rfl hl.1 rfl (Nat.le_of_ble_eq_true rfl) dX8_costliestKey_21 (fun H locs hP hS => ?_)
  rw [u3_self] at hP
  refine lv_istore_n (lv' := [(3, .int q1), (2, .int ((-1 : Int32))), (1, .int ((-1 : Int32))), (0, .ref (ad 160))]) hx hb dX8_costliestKey_24 rfl hl (by decide) rfl (fun ls hl => ?_)
  refine lv_iconst (v := (0 : Int32)) hx hb dX8_costliestKey_25 (by decide) ?_
  refine lv_istore (lv' := [(4, .int ((0 : Int32))), (3, .int q1), (2, .int ((-1 : Int32))), (1, .int ((-1 : Int32))), (0, .ref (ad 160))]) hx hb dX8_costliestKey_26 hl (by decide) rfl (fun ls hl => ?_)
  exact blk28 F _ _ σ (-1 : Int32) (-1 : Int32) q1 (0 : Int32) ls hP hS (lv_sub hl [4, 3, 2, 1, 0] rfl) hf
def fX8_told (F : Nat) (σ : Sig) (x1 : Int32) : Option (Int32 × Sig) := if x1 = (0 : Int32) then (some (σ 0 6 1, σ)) else (if x1 = (1 : Int32) then ((fX4_keyOf F (σ 0) (σ 0 6 0)).bind fun q1 => (some (q1, σ))) else (if x1 = (2 : Int32) then (if (σ 0 6 0) = (-1 : Int32) then (some ((-1 : Int32), σ)) else ((fX4_rankOf F (σ 0) (σ 0 6 0)).bind fun q3 => (some (q3, σ)))) else (if x1 = (3 : Int32) then ((fX6_depth F (σ 0)).bind fun q4 => (some (q4, σ))) else (if x1 = (4 : Int32) then ((fX6_worthFrom F (σ 0) (0 : Int32) (99999 : Int32)).bind fun q5 => (some (q5, σ))) else (if x1 = (5 : Int32) then (some (σ 0 7 0, σ)) else (if x1 = (6 : Int32) then (some (σ 0 7 1, σ)) else (if x1 = (7 : Int32) then (some (σ 0 7 2, σ)) else (if x1 = (8 : Int32) then (some (σ 0 8 0, σ)) else (if x1 = (9 : Int32) then (some (σ 0 8 1, σ)) else (if x1 = (10 : Int32) then (some (σ 0 8 2, σ)) else (if x1 = (11 : Int32) then ((fX6_ranksTogether F (σ 0)).bind fun q6 => (some (q6, σ))) else (if x1 = (12 : Int32) then ((fX6_longSteps F (σ 0)).bind fun q7 => (some (q7, σ))) else (if x1 = (13 : Int32) then ((fX8_costliestKey F σ).bind fun q8 => (some (q8.1, q8.2))) else (if x1 = (14 : Int32) then ((fX0_flat F (σ 0 6 1)).bind fun q9 => (some (q9, σ))) else (if x1 = (15 : Int32) then ((fX0_tall F (σ 0 6 1)).bind fun q10 => (some (q10, σ))) else (if x1 = (16 : Int32) then (some (σ 16 0 1, σ)) else (some ((-1000000002 : Int32), σ))))))))))))))))))
abbrev rX8_told : Room := { frames := 6, cells := 0, slots := 0, locals := 147 }
theorem wX8_told : kV yX8_told cX8_told 3 (some .int) 1 := ⟨kCO_yX8_told, kIM_yX8_told, kSE_yX8_told, kIN_RX8, by decide +kernel, by decide +kernel, by decide +kernel⟩
set_option maxHeartbeats 4000000 in
set_option maxRecDepth 100000 in
theorem tX8_told {l : Launch} {D : va_G} {cI cT cM : ClassId} {ad : Nat → Nat} (hD : gInj 167 ad) {F : Nat} {σ : Sig} {x1 : Int32} {res : Int32 × Sig} (hf : fX8_told F σ x1 = some res) : CTi l yX8_told cX8_told 3 .int rX8_told D (cTy cI cT cM) (gA 167 ad) [.ref (ad 160), .int x1] (cw cI cT cM ad σ) res.1 (cw cI cT cM ad res.2) := by
  refine ct_int (by decide) (Nat.le_of_ble_eq_true rfl) ?_
  intro p e s m args below meth c Q ls hx hb hml hown ht hX hret hP hS hl
  have hl : lv_has ls 3 [(0, .ref (ad 160)), (1, .int x1)] := hl
  unfold fX8_told at hf
  refine lv_aload_n hx hb dX8_told_0 rfl (lv_at hl 0 rfl) ?_
  refine va_get (ci := 6) (v := .ref (ad (10 * 0))) hx hb ht i_X8 hown hX.1 hP 160 cw_ri rfl 0 (by decide) (ht _ kFL_RX8_10) (fun _ h9 => h9) rfl dX8_told_1 ?_
  refine va_get (ci := 5) (v := .ref (ad (10 * 0 + 1))) hx hb ht i_X7 hown hX.1 hP (10 * 0) (cw_tree (i := 0) (by decide)) rfl 0 (by decide) (ht _ kFL_RX8_40) (fun _ h9 => h9) rfl dX8_told_4 ?_
  refine lv_astore_n (lv' := [(2, .ref (ad (10 * 0 + 1))), (0, .ref (ad 160)), (1, .int x1)]) hx hb dX8_told_7 rfl hl (by decide) rfl (fun ls hl => ?_)
  refine lv_iload_n hx hb dX8_told_8 rfl (lv_at hl 2 rfl) ?_
  by_cases hs0 : x1 = (0 : Int32)
  · rw [if_pos hs0] at hf
    refine lv_tableIn (off := 83) (tgt := 92) hx hb dX8_told_9 (by rw [hs0]; decide) (by rw [hs0]; decide) (by rw [hs0]; rfl) (by decide) ?_
    refine lv_aload_n hx hb dX8_told_92 rfl (lv_at hl 0 rfl) ?_
    refine va_get (ci := 3) (v := .int (σ 0 6 1)) hx hb ht i_X4 hown hX.1 hP (10 * 0 + 1) (cw_nodes (i := 0) (by decide)) rfl 7 (by decide) (ht _ kFL_RX8_44) (fun _ h9 => h9) rfl dX8_told_93 ?_
    have e0 := Option.some.inj hf
    subst e0
    exact hret _ _ _ _ hP hS dX8_told_96
  · rw [if_neg hs0] at hf
    by_cases hs1 : x1 = (1 : Int32)
    · rw [if_pos hs1] at hf
      refine lv_tableIn (off := 88) (tgt := 97) hx hb dX8_told_9 (by rw [hs1]; decide) (by rw [hs1]; decide) (by rw [hs1]; rfl) (by decide) ?_
      refine lv_aload_n hx hb dX8_told_97 rfl (lv_at hl 0 rfl) ?_
      refine lv_aload_n hx hb dX8_told_98 rfl (lv_at hl 0 rfl) ?_
      refine va_get (ci := 3) (v := .int (σ 0 6 0)) hx hb ht i_X4 hown hX.1 hP (10 * 0 + 1) (cw_nodes (i := 0) (by decide)) rfl 6 (by decide) (ht _ kFL_RX8_50) (fun _ h9 => h9) rfl dX8_told_99 ?_
      obtain ⟨q1, hq1, hf⟩ := obE hf
      refine ct_cVi (rest := []) (tX4_keyOf hD (by decide) hq1) hx hb hml hown ht hX (P_u3 0 hP) hS wX4_keyOf kML_RX8_53 rfl rfl ⟨Nat.le_of_ble_eq_true rfl, Nat.le_of_ble_eq_true rfl⟩ (va_recv hX.1 hP rfl (cw_nodes (i := 0) (by decide))) rfl hl.1 rfl (Nat.le_of_ble_eq_true rfl) dX8_told_102 (fun H locs hP hS => ?_)
      rw [u3_self] at hP
      have e0 := Option.some.inj hf
      subst e0
      exact hret _ _ _ _ hP hS dX8_told_105
    · rw [if_neg hs1] at hf
      by_cases hs2 : x1 = (2 : Int32)
      · rw [if_pos hs2] at hf
        refine lv_tableIn (off := 97) (tgt := 106) hx hb dX8_told_9 (by rw [hs2]; decide) (by rw [hs2]; decide) (by rw [hs2]; rfl) (by decide) ?_
        refine lv_aload_n hx hb dX8_told_106 rfl (lv_at hl 0 rfl) ?_
        refine va_get (ci := 3) (v := .int (σ 0 6 0)) hx hb ht i_X4 hown hX.1 hP (10 * 0 + 1) (cw_nodes (i := 0) (by decide)) rfl 6 (by decide) (ht _ kFL_RX8_50) (fun _ h9 => h9) rfl dX8_told_107 ?_
        refine lv_iconst (v := (-1 : Int32)) hx hb dX8_told_110 (by decide) ?_
        refine lv_icmp_ne (tgt := 118) hx hb dX8_told_111 (by decide) (fun hc2 => ?_) (fun hc2 => ?_)
        · rw [if_neg hc2] at hf
          refine lv_aload_n hx hb dX8_told_118 rfl (lv_at hl 0 rfl) ?_
          refine lv_aload_n hx hb dX8_told_119 rfl (lv_at hl 0 rfl) ?_
          refine va_get (ci := 3) (v := .int (σ 0 6 0)) hx hb ht i_X4 hown hX.1 hP (10 * 0 + 1) (cw_nodes (i := 0) (by decide)) rfl 6 (by decide) (ht _ kFL_RX8_50) (fun _ h9 => h9) rfl dX8_told_120 ?_
          obtain ⟨q3, hq3, hf⟩ := obE hf
          refine ct_cVi (rest := []) (tX4_rankOf hD (by decide) hq3) hx hb hml hown ht hX (P_u3 0 hP) hS wX4_rankOf kML_RX8_57 rfl rfl ⟨Nat.le_of_ble_eq_true rfl, Nat.le_of_ble_eq_true rfl⟩ (va_recv hX.1 hP rfl (cw_nodes (i := 0) (by decide))) rfl hl.1 rfl (Nat.le_of_ble_eq_true rfl) dX8_told_123 (fun H locs hP hS => ?_)
          rw [u3_self] at hP
          have e0 := Option.some.inj hf
          subst e0
          exact hret _ _ _ _ hP hS dX8_told_126
        · rw [if_pos hc2] at hf
          refine lv_iconst (v := (-1 : Int32)) hx hb dX8_told_114 (by decide) ?_
          refine lv_goto (tgt := 126) hx hb dX8_told_115 (by decide) ?_
          have e0 := Option.some.inj hf
          subst e0
          exact hret _ _ _ _ hP hS dX8_told_126
      · rw [if_neg hs2] at hf
        by_cases hs3 : x1 = (3 : Int32)
        · rw [if_pos hs3] at hf
          refine lv_tableIn (off := 118) (tgt := 127) hx hb dX8_told_9 (by rw [hs3]; decide) (by rw [hs3]; decide) (by rw [hs3]; rfl) (by decide) ?_
          refine lv_aload_n hx hb dX8_told_127 rfl (lv_at hl 0 rfl) ?_
          obtain ⟨q4, hq4, hf⟩ := obE hf
          refine ct_cSi (rest := []) (tX6_depth hD (by decide) hq4) hx hb hml hown ht hX (P_u3 0 hP) hS wX6_depth kML_RX8_60 rfl rfl ⟨Nat.le_of_ble_eq_true rfl, Nat.le_of_ble_eq_true rfl⟩ rfl hl.1 rfl (Nat.le_of_ble_eq_true rfl) dX8_told_128 (fun H locs hP hS => ?_)
          rw [u3_self] at hP
          have e0 := Option.some.inj hf
          subst e0
          exact hret _ _ _ _ hP hS dX8_told_131
        · rw [if_neg hs3] at hf
          by_cases hs4 : x1 = (4 : Int32)
          · rw [if_pos hs4] at hf
            refine lv_tableIn (off := 123) (tgt := 132) hx hb dX8_told_9 (by rw [hs4]; decide) (by rw [hs4]; decide) (by rw [hs4]; rfl) (by decide) ?_
            refine lv_aload_n hx hb dX8_told_132 rfl (lv_at hl 0 rfl) ?_
            refine lv_iconst (v := (0 : Int32)) hx hb dX8_told_133 (by decide) ?_
            refine lv_ldc hx hb hown (ht _ kKI_RX8_66) dX8_told_134 ?_
            obtain ⟨q5, hq5, hf⟩ := obE hf
            refine ct_cSi (rest := []) (tX6_worthFrom hD (by decide) hq5) hx hb hml hown ht hX (P_u3 0 hP) hS wX6_worthFrom kML_RX8_67 rfl rfl ⟨Nat.le_of_ble_eq_true rfl, Nat.le_of_ble_eq_true rfl⟩ rfl hl.1 rfl (Nat.le_of_ble_eq_true rfl) dX8_told_136 (fun H locs hP hS => ?_)
            rw [u3_self] at hP
            have e0 := Option.some.inj hf
            subst e0
            exact hret _ _ _ _ hP hS dX8_told_139
          · rw [if_neg hs4] at hf
            by_cases hs5 : x1 = (5 : Int32)
            · rw [if_pos hs5] at hf
              refine lv_tableIn (off := 131) (tgt := 140) hx hb dX8_told_9 (by rw [hs5]; decide) (by rw [hs5]; decide) (by rw [hs5]; rfl) (by decide) ?_
              refine lv_aload_n hx hb dX8_told_140 rfl (lv_at hl 1 rfl) ?_
              refine va_get (ci := 6) (v := .ref (ad (10 * 0))) hx hb ht i_X8 hown hX.1 hP 160 cw_ri rfl 0 (by decide) (ht _ kFL_RX8_10) (fun _ h9 => h9) rfl dX8_told_141 ?_
              refine va_get (ci := 5) (v := .ref (ad (10 * 0 + (1 + 7)))) hx hb ht i_X7 hown hX.1 hP (10 * 0) (cw_tree (i := 0) (by decide)) rfl 1 (by decide) (ht _ kFL_RX8_71) (fun _ h9 => h9) rfl dX8_told_144 ?_
              refine va_get (ci := 0) (v := .int (σ 0 7 0)) hx hb ht i_X1 hown hX.1 hP (10 * 0 + (1 + 7)) (cw_cnt (i := 0) (by decide) (Or.inl rfl)) rfl 0 (by decide) (ht _ kFL_RX8_75) (fun _ h9 => h9) rfl dX8_told_147 ?_
              have e0 := Option.some.inj hf
              subst e0
              exact hret _ _ _ _ hP hS dX8_told_150
            · rw [if_neg hs5] at hf
              by_cases hs6 : x1 = (6 : Int32)
              · rw [if_pos hs6] at hf
                refine lv_tableIn (off := 142) (tgt := 151) hx hb dX8_told_9 (by rw [hs6]; decide) (by rw [hs6]; decide) (by rw [hs6]; rfl) (by decide) ?_
                refine lv_aload_n hx hb dX8_told_151 rfl (lv_at hl 1 rfl) ?_
                refine va_get (ci := 6) (v := .ref (ad (10 * 0))) hx hb ht i_X8 hown hX.1 hP 160 cw_ri rfl 0 (by decide) (ht _ kFL_RX8_10) (fun _ h9 => h9) rfl dX8_told_152 ?_
                refine va_get (ci := 5) (v := .ref (ad (10 * 0 + (1 + 7)))) hx hb ht i_X7 hown hX.1 hP (10 * 0) (cw_tree (i := 0) (by decide)) rfl 1 (by decide) (ht _ kFL_RX8_71) (fun _ h9 => h9) rfl dX8_told_155 ?_
                refine va_get (ci := 0) (v := .int (σ 0 7 1)) hx hb ht i_X1 hown hX.1 hP (10 * 0 + (1 + 7)) (cw_cnt (i := 0) (by decide) (Or.inl rfl)) rfl 1 (by decide) (ht _ kFL_RX8_80) (fun _ h9 => h9) rfl dX8_told_158 ?_
                have e0 := Option.some.inj hf
                subst e0
                exact hret _ _ _ _ hP hS dX8_told_161
              · rw [if_neg hs6] at hf
                by_cases hs7 : x1 = (7 : Int32)
                · rw [if_pos hs7] at hf
                  refine lv_tableIn (off := 153) (tgt := 162) hx hb dX8_told_9 (by rw [hs7]; decide) (by rw [hs7]; decide) (by rw [hs7]; rfl) (by decide) ?_
                  refine lv_aload_n hx hb dX8_told_162 rfl (lv_at hl 1 rfl) ?_
                  refine va_get (ci := 6) (v := .ref (ad (10 * 0))) hx hb ht i_X8 hown hX.1 hP 160 cw_ri rfl 0 (by decide) (ht _ kFL_RX8_10) (fun _ h9 => h9) rfl dX8_told_163 ?_
                  refine va_get (ci := 5) (v := .ref (ad (10 * 0 + (1 + 7)))) hx hb ht i_X7 hown hX.1 hP (10 * 0) (cw_tree (i := 0) (by decide)) rfl 1 (by decide) (ht _ kFL_RX8_71) (fun _ h9 => h9) rfl dX8_told_166 ?_
                  refine va_get (ci := 0) (v := .int (σ 0 7 2)) hx hb ht i_X1 hown hX.1 hP (10 * 0 + (1 + 7)) (cw_cnt (i := 0) (by decide) (Or.inl rfl)) rfl 2 (by decide) (ht _ kFL_RX8_83) (fun _ h9 => h9) rfl dX8_told_169 ?_
                  have e0 := Option.some.inj hf
                  subst e0
                  exact hret _ _ _ _ hP hS dX8_told_172
                · rw [if_neg hs7] at hf
                  by_cases hs8 : x1 = (8 : Int32)
                  · rw [if_pos hs8] at hf
                    refine lv_tableIn (off := 164) (tgt := 173) hx hb dX8_told_9 (by rw [hs8]; decide) (by rw [hs8]; decide) (by rw [hs8]; rfl) (by decide) ?_
                    refine lv_aload_n hx hb dX8_told_173 rfl (lv_at hl 1 rfl) ?_
                    refine va_get (ci := 6) (v := .ref (ad (10 * 0))) hx hb ht i_X8 hown hX.1 hP 160 cw_ri rfl 0 (by decide) (ht _ kFL_RX8_10) (fun _ h9 => h9) rfl dX8_told_174 ?_
                    refine va_get (ci := 5) (v := .ref (ad (10 * 0 + (1 + 8)))) hx hb ht i_X7 hown hX.1 hP (10 * 0) (cw_tree (i := 0) (by decide)) rfl 2 (by decide) (ht _ kFL_RX8_86) (fun _ h9 => h9) rfl dX8_told_177 ?_
                    refine va_get (ci := 0) (v := .int (σ 0 8 0)) hx hb ht i_X1 hown hX.1 hP (10 * 0 + (1 + 8)) (cw_cnt (i := 0) (by decide) (Or.inr rfl)) rfl 0 (by decide) (ht _ kFL_RX8_75) (fun _ h9 => h9) rfl dX8_told_180 ?_
                    have e0 := Option.some.inj hf
                    subst e0
                    exact hret _ _ _ _ hP hS dX8_told_183
                  · rw [if_neg hs8] at hf
                    by_cases hs9 : x1 = (9 : Int32)
                    · rw [if_pos hs9] at hf
                      refine lv_tableIn (off := 175) (tgt := 184) hx hb dX8_told_9 (by rw [hs9]; decide) (by rw [hs9]; decide) (by rw [hs9]; rfl) (by decide) ?_
                      refine lv_aload_n hx hb dX8_told_184 rfl (lv_at hl 1 rfl) ?_
                      refine va_get (ci := 6) (v := .ref (ad (10 * 0))) hx hb ht i_X8 hown hX.1 hP 160 cw_ri rfl 0 (by decide) (ht _ kFL_RX8_10) (fun _ h9 => h9) rfl dX8_told_185 ?_
                      refine va_get (ci := 5) (v := .ref (ad (10 * 0 + (1 + 8)))) hx hb ht i_X7 hown hX.1 hP (10 * 0) (cw_tree (i := 0) (by decide)) rfl 2 (by decide) (ht _ kFL_RX8_86) (fun _ h9 => h9) rfl dX8_told_188 ?_
                      refine va_get (ci := 0) (v := .int (σ 0 8 1)) hx hb ht i_X1 hown hX.1 hP (10 * 0 + (1 + 8)) (cw_cnt (i := 0) (by decide) (Or.inr rfl)) rfl 1 (by decide) (ht _ kFL_RX8_80) (fun _ h9 => h9) rfl dX8_told_191 ?_
                      have e0 := Option.some.inj hf
                      subst e0
                      exact hret _ _ _ _ hP hS dX8_told_194
                    · rw [if_neg hs9] at hf
                      by_cases hs10 : x1 = (10 : Int32)
                      · rw [if_pos hs10] at hf
                        refine lv_tableIn (off := 186) (tgt := 195) hx hb dX8_told_9 (by rw [hs10]; decide) (by rw [hs10]; decide) (by rw [hs10]; rfl) (by decide) ?_
                        refine lv_aload_n hx hb dX8_told_195 rfl (lv_at hl 1 rfl) ?_
                        refine va_get (ci := 6) (v := .ref (ad (10 * 0))) hx hb ht i_X8 hown hX.1 hP 160 cw_ri rfl 0 (by decide) (ht _ kFL_RX8_10) (fun _ h9 => h9) rfl dX8_told_196 ?_
                        refine va_get (ci := 5) (v := .ref (ad (10 * 0 + (1 + 8)))) hx hb ht i_X7 hown hX.1 hP (10 * 0) (cw_tree (i := 0) (by decide)) rfl 2 (by decide) (ht _ kFL_RX8_86) (fun _ h9 => h9) rfl dX8_told_199 ?_
                        refine va_get (ci := 0) (v := .int (σ 0 8 2)) hx hb ht i_X1 hown hX.1 hP (10 * 0 + (1 + 8)) (cw_cnt (i := 0) (by decide) (Or.inr rfl)) rfl 2 (by decide) (ht _ kFL_RX8_83) (fun _ h9 => h9) rfl dX8_told_202 ?_
                        have e0 := Option.some.inj hf
                        subst e0
                        exact hret _ _ _ _ hP hS dX8_told_205
                      · rw [if_neg hs10] at hf
                        by_cases hs11 : x1 = (11 : Int32)
                        · rw [if_pos hs11] at hf
                          refine lv_tableIn (off := 197) (tgt := 206) hx hb dX8_told_9 (by rw [hs11]; decide) (by rw [hs11]; decide) (by rw [hs11]; rfl) (by decide) ?_
                          refine lv_aload_n hx hb dX8_told_206 rfl (lv_at hl 0 rfl) ?_
                          obtain ⟨q6, hq6, hf⟩ := obE hf
                          refine ct_cSi (rest := []) (tX6_ranksTogether hD (by decide) hq6) hx hb hml hown ht hX (P_u3 0 hP) hS wX6_ranksTogether kML_RX8_89 rfl rfl ⟨Nat.le_of_ble_eq_true rfl, Nat.le_of_ble_eq_true rfl⟩ rfl hl.1 rfl (Nat.le_of_ble_eq_true rfl) dX8_told_207 (fun H locs hP hS => ?_)
                          rw [u3_self] at hP
                          have e0 := Option.some.inj hf
                          subst e0
                          exact hret _ _ _ _ hP hS dX8_told_210
                        · rw [if_neg hs11] at hf
                          by_cases hs12 : x1 = (12 : Int32)
                          · rw [if_pos hs12] at hf
                            refine lv_tableIn (off := 202) (tgt := 211) hx hb dX8_told_9 (by rw [hs12]; decide) (by rw [hs12]; decide) (by rw [hs12]; rfl) (by decide) ?_
                            refine lv_aload_n hx hb dX8_told_211 rfl (lv_at hl 0 rfl) ?_
                            obtain ⟨q7, hq7, hf⟩ := obE hf
                            refine ct_cSi (rest := []) (tX6_longSteps hD (by decide) hq7) hx hb hml hown ht hX (P_u3 0 hP) hS wX6_longSteps kML_RX8_92 rfl rfl ⟨Nat.le_of_ble_eq_true rfl, Nat.le_of_ble_eq_true rfl⟩ rfl hl.1 rfl (Nat.le_of_ble_eq_true rfl) dX8_told_212 (fun H locs hP hS => ?_)
                            rw [u3_self] at hP
                            have e0 := Option.some.inj hf
                            subst e0
                            exact hret _ _ _ _ hP hS dX8_told_215
                          · rw [if_neg hs12] at hf
                            by_cases hs13 : x1 = (13 : Int32)
                            · rw [if_pos hs13] at hf
                              refine lv_tableIn (off := 207) (tgt := 216) hx hb dX8_told_9 (by rw [hs13]; decide) (by rw [hs13]; decide) (by rw [hs13]; rfl) (by decide) ?_
                              refine lv_aload_n hx hb dX8_told_216 rfl (lv_at hl 1 rfl) ?_
                              obtain ⟨q8, hq8, hf⟩ := obE hf
                              refine ct_cVi (rest := []) (tX8_costliestKey hD hq8) hx hb hml hown ht hX hP hS wX8_costliestKey kML_RX8_95 rfl rfl ⟨Nat.le_of_ble_eq_true rfl, Nat.le_of_ble_eq_true rfl⟩ (va_recv hX.1 hP rfl cw_ri) rfl hl.1 rfl (Nat.le_of_ble_eq_true rfl) dX8_told_217 (fun H locs hP hS => ?_)
                              have e0 := Option.some.inj hf
                              subst e0
                              exact hret _ _ _ _ hP hS dX8_told_220
                            · rw [if_neg hs13] at hf
                              by_cases hs14 : x1 = (14 : Int32)
                              · rw [if_pos hs14] at hf
                                refine lv_tableIn (off := 212) (tgt := 221) hx hb dX8_told_9 (by rw [hs14]; decide) (by rw [hs14]; decide) (by rw [hs14]; rfl) (by decide) ?_
                                refine lv_aload_n hx hb dX8_told_221 rfl (lv_at hl 0 rfl) ?_
                                refine va_get (ci := 3) (v := .int (σ 0 6 1)) hx hb ht i_X4 hown hX.1 hP (10 * 0 + 1) (cw_nodes (i := 0) (by decide)) rfl 7 (by decide) (ht _ kFL_RX8_44) (fun _ h9 => h9) rfl dX8_told_222 ?_
                                obtain ⟨q9, hq9, hf⟩ := obE hf
                                refine ct_cSi (rest := []) (tX0_flat hD hq9) hx hb hml hown ht hX hP hS wX0_flat kML_RX8_99 rfl rfl ⟨Nat.le_of_ble_eq_true rfl, Nat.le_of_ble_eq_true rfl⟩ rfl hl.1 rfl (Nat.le_of_ble_eq_true rfl) dX8_told_225 (fun H locs hP hS => ?_)
                                have e0 := Option.some.inj hf
                                subst e0
                                exact hret _ _ _ _ hP hS dX8_told_228
                              · rw [if_neg hs14] at hf
                                by_cases hs15 : x1 = (15 : Int32)
                                · rw [if_pos hs15] at hf
                                  refine lv_tableIn (off := 220) (tgt := 229) hx hb dX8_told_9 (by rw [hs15]; decide) (by rw [hs15]; decide) (by rw [hs15]; rfl) (by decide) ?_
                                  refine lv_aload_n hx hb dX8_told_229 rfl (lv_at hl 0 rfl) ?_
                                  refine va_get (ci := 3) (v := .int (σ 0 6 1)) hx hb ht i_X4 hown hX.1 hP (10 * 0 + 1) (cw_nodes (i := 0) (by decide)) rfl 7 (by decide) (ht _ kFL_RX8_44) (fun _ h9 => h9) rfl dX8_told_230 ?_
                                  obtain ⟨q10, hq10, hf⟩ := obE hf
                                  refine ct_cSi (rest := []) (tX0_tall hD hq10) hx hb hml hown ht hX hP hS wX0_tall kML_RX8_104 rfl rfl ⟨Nat.le_of_ble_eq_true rfl, Nat.le_of_ble_eq_true rfl⟩ rfl hl.1 rfl (Nat.le_of_ble_eq_true rfl) dX8_told_233 (fun H locs hP hS => ?_)
                                  have e0 := Option.some.inj hf
                                  subst e0
                                  exact hret _ _ _ _ hP hS dX8_told_236
                                · rw [if_neg hs15] at hf
                                  by_cases hs16 : x1 = (16 : Int32)
                                  · rw [if_pos hs16] at hf
                                    refine lv_tableIn (off := 228) (tgt := 237) hx hb dX8_told_9 (by rw [hs16]; decide) (by rw [hs16]; decide) (by rw [hs16]; rfl) (by decide) ?_
                                    refine lv_aload_n hx hb dX8_told_237 rfl (lv_at hl 1 rfl) ?_
                                    refine va_get (ci := 6) (v := .ref (ad 161)) hx hb ht i_X8 hown hX.1 hP 160 cw_ri rfl 2 (by decide) (ht _ kFL_RX8_22) (fun _ h9 => h9) rfl dX8_told_238 ?_
                                    refine va_get (ci := 4) (v := .int (σ 16 0 1)) hx hb ht i_X5 hown hX.1 hP 161 cw_past rfl 2 (by decide) (ht _ kFL_RX8_107) (fun _ h9 => h9) rfl dX8_told_241 ?_
                                    have e0 := Option.some.inj hf
                                    subst e0
                                    exact hret _ _ _ _ hP hS dX8_told_244
                                  · rw [if_neg hs16] at hf
                                    have hz0 : ¬ (x1).toInt = 0 := lv_neT hs0 (by decide)
                                    have hz1 : ¬ (x1).toInt = 1 := lv_neT hs1 (by decide)
                                    have hz2 : ¬ (x1).toInt = 2 := lv_neT hs2 (by decide)
                                    have hz3 : ¬ (x1).toInt = 3 := lv_neT hs3 (by decide)
                                    have hz4 : ¬ (x1).toInt = 4 := lv_neT hs4 (by decide)
                                    have hz5 : ¬ (x1).toInt = 5 := lv_neT hs5 (by decide)
                                    have hz6 : ¬ (x1).toInt = 6 := lv_neT hs6 (by decide)
                                    have hz7 : ¬ (x1).toInt = 7 := lv_neT hs7 (by decide)
                                    have hz8 : ¬ (x1).toInt = 8 := lv_neT hs8 (by decide)
                                    have hz9 : ¬ (x1).toInt = 9 := lv_neT hs9 (by decide)
                                    have hz10 : ¬ (x1).toInt = 10 := lv_neT hs10 (by decide)
                                    have hz11 : ¬ (x1).toInt = 11 := lv_neT hs11 (by decide)
                                    have hz12 : ¬ (x1).toInt = 12 := lv_neT hs12 (by decide)
                                    have hz13 : ¬ (x1).toInt = 13 := lv_neT hs13 (by decide)
                                    have hz14 : ¬ (x1).toInt = 14 := lv_neT hs14 (by decide)
                                    have hz15 : ¬ (x1).toInt = 15 := lv_neT hs15 (by decide)
                                    have hz16 : ¬ (x1).toInt = 16 := lv_neT hs16 (by decide)
                                    refine lv_tableOut (tgt := 245) hx hb dX8_told_9 (by omega) (by decide) ?_
                                    refine lv_ldc hx hb hown (ht _ kKI_RX8_110) dX8_told_245 ?_
                                    have e0 := Option.some.inj hf
                                    subst e0
                                    exact hret _ _ _ _ hP hS dX8_told_247
def fX8_node (F : Nat) (σ : Sig) (x1 : Int32) (x2 : Int32) : Option (Int32) := (fX4_slotOfNumber F (σ 0) x1).bind fun q1 => (if q1 = (-1 : Int32) then (some (-1000000001 : Int32)) else (if x2 = (0 : Int32) then ((fX4_keyOf F (σ 0) q1).bind fun q3 => (some q3)) else (if x2 = (1 : Int32) then ((fX4_rankOf F (σ 0) q1).bind fun q4 => (some q4)) else (if x2 = (2 : Int32) then ((fX4_howManyAbove F (σ 0) q1).bind fun q5 => (some q5)) else (if x2 = (3 : Int32) then ((fX4_leftOf F (σ 0) q1).bind fun q6 => ((fX4_numberOfSlot F (σ 0) q6).bind fun q7 => (some q7))) else (if x2 = (4 : Int32) then ((fX4_rightOf F (σ 0) q1).bind fun q8 => ((fX4_numberOfSlot F (σ 0) q8).bind fun q9 => (some q9))) else (if x2 = (5 : Int32) then ((fX6_howManyBelow F (σ 0) q1).bind fun q10 => (some q10)) else (if x2 = (6 : Int32) then (if q1 = (σ 0 6 0) then (some (-1 : Int32)) else ((fX4_parentOf F (σ 0) q1).bind fun q12 => ((fX4_step F (σ 0) q12 q1).bind fun q13 => (some q13)))) else (some (-1000000002 : Int32))))))))))
abbrev rX8_node : Room := { frames := 4, cells := 0, slots := 0, locals := 92 }
theorem wX8_node : kV yX8_node cX8_node 5 (some .int) 2 := ⟨kCO_yX8_node, kIM_yX8_node, kSE_yX8_node, kIN_RX8, by decide +kernel, by decide +kernel, by decide +kernel⟩
set_option maxHeartbeats 4000000 in
set_option maxRecDepth 100000 in
theorem tX8_node {l : Launch} {D : va_G} {cI cT cM : ClassId} {ad : Nat → Nat} (hD : gInj 167 ad) {F : Nat} {σ : Sig} {x1 : Int32} {x2 : Int32} {res : Int32} (hf : fX8_node F σ x1 x2 = some res) : CTi l yX8_node cX8_node 5 .int rX8_node D (cTy cI cT cM) (gA 167 ad) [.ref (ad 160), .int x1, .int x2] (cw cI cT cM ad σ) res (cw cI cT cM ad σ) := by
  refine ct_int (by decide) (Nat.le_of_ble_eq_true rfl) ?_
  intro p e s m args below meth c Q ls hx hb hml hown ht hX hret hP hS hl
  have hl : lv_has ls 5 [(0, .ref (ad 160)), (1, .int x1), (2, .int x2)] := hl
  unfold fX8_node at hf
  refine lv_aload_n hx hb dX8_node_0 rfl (lv_at hl 0 rfl) ?_
  refine va_get (ci := 6) (v := .ref (ad (10 * 0))) hx hb ht i_X8 hown hX.1 hP 160 cw_ri rfl 0 (by decide) (ht _ kFL_RX8_10) (fun _ h9 => h9) rfl dX8_node_1 ?_
  refine va_get (ci := 5) (v := .ref (ad (10 * 0 + 1))) hx hb ht i_X7 hown hX.1 hP (10 * 0) (cw_tree (i := 0) (by decide)) rfl 0 (by decide) (ht _ kFL_RX8_40) (fun _ h9 => h9) rfl dX8_node_4 ?_
  refine lv_astore_n (lv' := [(3, .ref (ad (10 * 0 + 1))), (0, .ref (ad 160)), (1, .int x1), (2, .int x2)]) hx hb dX8_node_7 rfl hl (by decide) rfl (fun ls hl => ?_)
  refine lv_aload_n hx hb dX8_node_8 rfl (lv_at hl 0 rfl) ?_
  refine lv_iload_n hx hb dX8_node_9 rfl (lv_at hl 2 rfl) ?_
  obtain ⟨q1, hq1, hf⟩ := obE hf
  refine ct_cVi (rest := []) (tX4_slotOfNumber hD (by decide) hq1) hx hb hml hown ht hX (P_u3 0 hP) hS wX4_slotOfNumber kML_RX8_111 rfl rfl ⟨Nat.le_of_ble_eq_true rfl, Nat.le_of_ble_eq_true rfl⟩ (va_recv hX.1 hP rfl (cw_nodes (i := 0) (by decide))) rfl hl.1 rfl (Nat.le_of_ble_eq_true rfl) dX8_node_10 (fun H locs hP hS => ?_)
  rw [u3_self] at hP
  refine lv_istore (lv' := [(4, .int q1), (3, .ref (ad (10 * 0 + 1))), (0, .ref (ad 160)), (1, .int x1), (2, .int x2)]) hx hb dX8_node_13 hl (by decide) rfl (fun ls hl => ?_)
  refine lv_iload hx hb dX8_node_15 (lv_at hl 0 rfl) ?_
  refine lv_iconst (v := (-1 : Int32)) hx hb dX8_node_17 (by decide) ?_
  refine lv_icmp_ne (tgt := 24) hx hb dX8_node_18 (by decide) (fun hc2 => ?_) (fun hc2 => ?_)
  · rw [if_neg hc2] at hf
    refine lv_iload_n hx hb dX8_node_24 rfl (lv_at hl 4 rfl) ?_
    by_cases hs0 : x2 = (0 : Int32)
    · rw [if_pos hs0] at hf
      refine lv_tableIn (off := 43) (tgt := 68) hx hb dX8_node_25 (by rw [hs0]; decide) (by rw [hs0]; decide) (by rw [hs0]; rfl) (by decide) ?_
      refine lv_aload_n hx hb dX8_node_68 rfl (lv_at hl 1 rfl) ?_
      refine lv_iload hx hb dX8_node_69 (lv_at hl 0 rfl) ?_
      obtain ⟨q3, hq3, hf⟩ := obE hf
      refine ct_cVi (rest := []) (tX4_keyOf hD (by decide) hq3) hx hb hml hown ht hX (P_u3 0 hP) hS wX4_keyOf kML_RX8_53 rfl rfl ⟨Nat.le_of_ble_eq_true rfl, Nat.le_of_ble_eq_true rfl⟩ (va_recv hX.1 hP rfl (cw_nodes (i := 0) (by decide))) rfl hl.1 rfl (Nat.le_of_ble_eq_true rfl) dX8_node_71 (fun H locs hP hS => ?_)
      rw [u3_self] at hP
      have e0 := Option.some.inj hf
      subst e0
      exact hret _ _ _ _ hP hS dX8_node_74
    · rw [if_neg hs0] at hf
      by_cases hs1 : x2 = (1 : Int32)
      · rw [if_pos hs1] at hf
        refine lv_tableIn (off := 50) (tgt := 75) hx hb dX8_node_25 (by rw [hs1]; decide) (by rw [hs1]; decide) (by rw [hs1]; rfl) (by decide) ?_
        refine lv_aload_n hx hb dX8_node_75 rfl (lv_at hl 1 rfl) ?_
        refine lv_iload hx hb dX8_node_76 (lv_at hl 0 rfl) ?_
        obtain ⟨q4, hq4, hf⟩ := obE hf
        refine ct_cVi (rest := []) (tX4_rankOf hD (by decide) hq4) hx hb hml hown ht hX (P_u3 0 hP) hS wX4_rankOf kML_RX8_57 rfl rfl ⟨Nat.le_of_ble_eq_true rfl, Nat.le_of_ble_eq_true rfl⟩ (va_recv hX.1 hP rfl (cw_nodes (i := 0) (by decide))) rfl hl.1 rfl (Nat.le_of_ble_eq_true rfl) dX8_node_78 (fun H locs hP hS => ?_)
        rw [u3_self] at hP
        have e0 := Option.some.inj hf
        subst e0
        exact hret _ _ _ _ hP hS dX8_node_81
      · rw [if_neg hs1] at hf
        by_cases hs2 : x2 = (2 : Int32)
        · rw [if_pos hs2] at hf
          refine lv_tableIn (off := 57) (tgt := 82) hx hb dX8_node_25 (by rw [hs2]; decide) (by rw [hs2]; decide) (by rw [hs2]; rfl) (by decide) ?_
          refine lv_aload_n hx hb dX8_node_82 rfl (lv_at hl 1 rfl) ?_
          refine lv_iload hx hb dX8_node_83 (lv_at hl 0 rfl) ?_
          obtain ⟨q5, hq5, hf⟩ := obE hf
          refine ct_cVi (rest := []) (tX4_howManyAbove hD (by decide) hq5) hx hb hml hown ht hX (P_u3 0 hP) hS wX4_howManyAbove kML_RX8_115 rfl rfl ⟨Nat.le_of_ble_eq_true rfl, Nat.le_of_ble_eq_true rfl⟩ (va_recv hX.1 hP rfl (cw_nodes (i := 0) (by decide))) rfl hl.1 rfl (Nat.le_of_ble_eq_true rfl) dX8_node_85 (fun H locs hP hS => ?_)
          rw [u3_self] at hP
          have e0 := Option.some.inj hf
          subst e0
          exact hret _ _ _ _ hP hS dX8_node_88
        · rw [if_neg hs2] at hf
          by_cases hs3 : x2 = (3 : Int32)
          · rw [if_pos hs3] at hf
            refine lv_tableIn (off := 64) (tgt := 89) hx hb dX8_node_25 (by rw [hs3]; decide) (by rw [hs3]; decide) (by rw [hs3]; rfl) (by decide) ?_
            refine lv_aload_n hx hb dX8_node_89 rfl (lv_at hl 1 rfl) ?_
            refine lv_aload_n hx hb dX8_node_90 rfl (lv_at hl 1 rfl) ?_
            refine lv_iload hx hb dX8_node_91 (lv_at hl 0 rfl) ?_
            obtain ⟨q6, hq6, hf⟩ := obE hf
            refine ct_cVi (rest := [.ref (ad (10 * 0 + 1))]) (tX4_leftOf hD (by decide) hq6) hx hb hml hown ht hX (P_u3 0 hP) hS wX4_leftOf kML_RX8_118 rfl rfl ⟨Nat.le_of_ble_eq_true rfl, Nat.le_of_ble_eq_true rfl⟩ (va_recv hX.1 hP rfl (cw_nodes (i := 0) (by decide))) rfl hl.1 rfl (Nat.le_of_ble_eq_true rfl) dX8_node_93 (fun H locs hP hS => ?_)
            rw [u3_self] at hP
            obtain ⟨q7, hq7, hf⟩ := obE hf
            refine ct_cVi (rest := []) (tX4_numberOfSlot hD (by decide) hq7) hx hb hml hown ht hX (P_u3 0 hP) hS wX4_numberOfSlot kML_RX8_121 rfl rfl ⟨Nat.le_of_ble_eq_true rfl, Nat.le_of_ble_eq_true rfl⟩ (va_recv hX.1 hP rfl (cw_nodes (i := 0) (by decide))) rfl hl.1 rfl (Nat.le_of_ble_eq_true rfl) dX8_node_96 (fun H locs hP hS => ?_)
            rw [u3_self] at hP
            have e0 := Option.some.inj hf
            subst e0
            exact hret _ _ _ _ hP hS dX8_node_99
          · rw [if_neg hs3] at hf
            by_cases hs4 : x2 = (4 : Int32)
            · rw [if_pos hs4] at hf
              refine lv_tableIn (off := 75) (tgt := 100) hx hb dX8_node_25 (by rw [hs4]; decide) (by rw [hs4]; decide) (by rw [hs4]; rfl) (by decide) ?_
              refine lv_aload_n hx hb dX8_node_100 rfl (lv_at hl 1 rfl) ?_
              refine lv_aload_n hx hb dX8_node_101 rfl (lv_at hl 1 rfl) ?_
              refine lv_iload hx hb dX8_node_102 (lv_at hl 0 rfl) ?_
              obtain ⟨q8, hq8, hf⟩ := obE hf
              refine ct_cVi (rest := [.ref (ad (10 * 0 + 1))]) (tX4_rightOf hD (by decide) hq8) hx hb hml hown ht hX (P_u3 0 hP) hS wX4_rightOf kML_RX8_124 rfl rfl ⟨Nat.le_of_ble_eq_true rfl, Nat.le_of_ble_eq_true rfl⟩ (va_recv hX.1 hP rfl (cw_nodes (i := 0) (by decide))) rfl hl.1 rfl (Nat.le_of_ble_eq_true rfl) dX8_node_104 (fun H locs hP hS => ?_)
              rw [u3_self] at hP
              obtain ⟨q9, hq9, hf⟩ := obE hf
              refine ct_cVi (rest := []) (tX4_numberOfSlot hD (by decide) hq9) hx hb hml hown ht hX (P_u3 0 hP) hS wX4_numberOfSlot kML_RX8_121 rfl rfl ⟨Nat.le_of_ble_eq_true rfl, Nat.le_of_ble_eq_true rfl⟩ (va_recv hX.1 hP rfl (cw_nodes (i := 0) (by decide))) rfl hl.1 rfl (Nat.le_of_ble_eq_true rfl) dX8_node_107 (fun H locs hP hS => ?_)
              rw [u3_self] at hP
              have e0 := Option.some.inj hf
              subst e0
              exact hret _ _ _ _ hP hS dX8_node_110
            · rw [if_neg hs4] at hf
              by_cases hs5 : x2 = (5 : Int32)
              · rw [if_pos hs5] at hf
                refine lv_tableIn (off := 86) (tgt := 111) hx hb dX8_node_25 (by rw [hs5]; decide) (by rw [hs5]; decide) (by rw [hs5]; rfl) (by decide) ?_
                refine lv_aload_n hx hb dX8_node_111 rfl (lv_at hl 1 rfl) ?_
                refine lv_iload hx hb dX8_node_112 (lv_at hl 0 rfl) ?_
                obtain ⟨q10, hq10, hf⟩ := obE hf
                refine ct_cSi (rest := []) (tX6_howManyBelow hD (by decide) hq10) hx hb hml hown ht hX (P_u3 0 hP) hS wX6_howManyBelow kML_RX8_127 rfl rfl ⟨Nat.le_of_ble_eq_true rfl, Nat.le_of_ble_eq_true rfl⟩ rfl hl.1 rfl (Nat.le_of_ble_eq_true rfl) dX8_node_114 (fun H locs hP hS => ?_)
                rw [u3_self] at hP
                have e0 := Option.some.inj hf
                subst e0
                exact hret _ _ _ _ hP hS dX8_node_117
              · rw [if_neg hs5] at hf
                by_cases hs6 : x2 = (6 : Int32)
                · rw [if_pos hs6] at hf
                  refine lv_tableIn (off := 93) (tgt := 118) hx hb dX8_node_25 (by rw [hs6]; decide) (by rw [hs6]; decide) (by rw [hs6]; rfl) (by decide) ?_
                  refine lv_iload hx hb dX8_node_118 (lv_at hl 0 rfl) ?_
                  refine lv_aload_n hx hb dX8_node_120 rfl (lv_at hl 1 rfl) ?_
                  refine va_get (ci := 3) (v := .int (σ 0 6 0)) hx hb ht i_X4 hown hX.1 hP (10 * 0 + 1) (cw_nodes (i := 0) (by decide)) rfl 6 (by decide) (ht _ kFL_RX8_50) (fun _ h9 => h9) rfl dX8_node_121 ?_
                  refine lv_icmp_ne (tgt := 131) hx hb dX8_node_124 (by decide) (fun hc11 => ?_) (fun hc11 => ?_)
                  · rw [if_neg hc11] at hf
                    refine lv_aload_n hx hb dX8_node_131 rfl (lv_at hl 1 rfl) ?_
                    refine lv_aload_n hx hb dX8_node_132 rfl (lv_at hl 1 rfl) ?_
                    refine lv_iload hx hb dX8_node_133 (lv_at hl 0 rfl) ?_
                    obtain ⟨q12, hq12, hf⟩ := obE hf
                    refine ct_cVi (rest := [.ref (ad (10 * 0 + 1))]) (tX4_parentOf hD (by decide) hq12) hx hb hml hown ht hX (P_u3 0 hP) hS wX4_parentOf kML_RX8_131 rfl rfl ⟨Nat.le_of_ble_eq_true rfl, Nat.le_of_ble_eq_true rfl⟩ (va_recv hX.1 hP rfl (cw_nodes (i := 0) (by decide))) rfl hl.1 rfl (Nat.le_of_ble_eq_true rfl) dX8_node_135 (fun H locs hP hS => ?_)
                    rw [u3_self] at hP
                    refine lv_iload hx hb dX8_node_138 (lv_at hl 0 rfl) ?_
                    obtain ⟨q13, hq13, hf⟩ := obE hf
                    refine ct_cVi (rest := []) (tX4_step hD (by decide) hq13) hx hb hml hown ht hX (P_u3 0 hP) hS wX4_step kML_RX8_134 rfl rfl ⟨Nat.le_of_ble_eq_true rfl, Nat.le_of_ble_eq_true rfl⟩ (va_recv hX.1 hP rfl (cw_nodes (i := 0) (by decide))) rfl hl.1 rfl (Nat.le_of_ble_eq_true rfl) dX8_node_140 (fun H locs hP hS => ?_)
                    rw [u3_self] at hP
                    have e0 := Option.some.inj hf
                    subst e0
                    exact hret _ _ _ _ hP hS dX8_node_143
                  · rw [if_pos hc11] at hf
                    refine lv_iconst (v := (-1 : Int32)) hx hb dX8_node_127 (by decide) ?_
                    refine lv_goto (tgt := 143) hx hb dX8_node_128 (by decide) ?_
                    have e0 := Option.some.inj hf
                    subst e0
                    exact hret _ _ _ _ hP hS dX8_node_143
                · rw [if_neg hs6] at hf
                  have hz0 : ¬ (x2).toInt = 0 := lv_neT hs0 (by decide)
                  have hz1 : ¬ (x2).toInt = 1 := lv_neT hs1 (by decide)
                  have hz2 : ¬ (x2).toInt = 2 := lv_neT hs2 (by decide)
                  have hz3 : ¬ (x2).toInt = 3 := lv_neT hs3 (by decide)
                  have hz4 : ¬ (x2).toInt = 4 := lv_neT hs4 (by decide)
                  have hz5 : ¬ (x2).toInt = 5 := lv_neT hs5 (by decide)
                  have hz6 : ¬ (x2).toInt = 6 := lv_neT hs6 (by decide)
                  refine lv_tableOut (tgt := 144) hx hb dX8_node_25 (by omega) (by decide) ?_
                  refine lv_ldc hx hb hown (ht _ kKI_RX8_110) dX8_node_144 ?_
                  have e0 := Option.some.inj hf
                  subst e0
                  exact hret _ _ _ _ hP hS dX8_node_146
  · rw [if_pos hc2] at hf
    refine lv_ldc hx hb hown (ht _ kKI_RX8_114) dX8_node_21 ?_
    have e0 := Option.some.inj hf
    subst e0
    exact hret _ _ _ _ hP hS dX8_node_23
def fX8_key (F : Nat) (σ : Sig) (x1 : Int32) (x2 : Int32) : Option (Int32) := (fX4_slotOfKey F (σ 0) x1).bind fun q1 => (if q1 = (-1 : Int32) then (some (-1000000001 : Int32)) else (if x2 = (0 : Int32) then ((fX4_worthOf F (σ 0) q1).bind fun q3 => (some q3)) else (if x2 = (1 : Int32) then ((fX4_numberOfSlot F (σ 0) q1).bind fun q4 => (some q4)) else (if x2 = (2 : Int32) then ((fX6_howManyLess F (σ 0) x1).bind fun q5 => (some q5)) else (some (-1000000002 : Int32))))))
abbrev rX8_key : Room := { frames := 3, cells := 0, slots := 0, locals := 68 }
theorem wX8_key : kV yX8_key cX8_key 5 (some .int) 2 := ⟨kCO_yX8_key, kIM_yX8_key, kSE_yX8_key, kIN_RX8, by decide +kernel, by decide +kernel, by decide +kernel⟩
set_option maxHeartbeats 4000000 in
set_option maxRecDepth 100000 in
theorem tX8_key {l : Launch} {D : va_G} {cI cT cM : ClassId} {ad : Nat → Nat} (hD : gInj 167 ad) {F : Nat} {σ : Sig} {x1 : Int32} {x2 : Int32} {res : Int32} (hf : fX8_key F σ x1 x2 = some res) : CTi l yX8_key cX8_key 5 .int rX8_key D (cTy cI cT cM) (gA 167 ad) [.ref (ad 160), .int x1, .int x2] (cw cI cT cM ad σ) res (cw cI cT cM ad σ) := by
  refine ct_int (by decide) (Nat.le_of_ble_eq_true rfl) ?_
  intro p e s m args below meth c Q ls hx hb hml hown ht hX hret hP hS hl
  have hl : lv_has ls 5 [(0, .ref (ad 160)), (1, .int x1), (2, .int x2)] := hl
  unfold fX8_key at hf
  refine lv_aload_n hx hb dX8_key_0 rfl (lv_at hl 0 rfl) ?_
  refine va_get (ci := 6) (v := .ref (ad (10 * 0))) hx hb ht i_X8 hown hX.1 hP 160 cw_ri rfl 0 (by decide) (ht _ kFL_RX8_10) (fun _ h9 => h9) rfl dX8_key_1 ?_
  refine va_get (ci := 5) (v := .ref (ad (10 * 0 + 1))) hx hb ht i_X7 hown hX.1 hP (10 * 0) (cw_tree (i := 0) (by decide)) rfl 0 (by decide) (ht _ kFL_RX8_40) (fun _ h9 => h9) rfl dX8_key_4 ?_
  refine lv_astore_n (lv' := [(3, .ref (ad (10 * 0 + 1))), (0, .ref (ad 160)), (1, .int x1), (2, .int x2)]) hx hb dX8_key_7 rfl hl (by decide) rfl (fun ls hl => ?_)
  refine lv_aload_n hx hb dX8_key_8 rfl (lv_at hl 0 rfl) ?_
  refine lv_iload_n hx hb dX8_key_9 rfl (lv_at hl 2 rfl) ?_
  obtain ⟨q1, hq1, hf⟩ := obE hf
  refine ct_cVi (rest := []) (tX4_slotOfKey hD (by decide) hq1) hx hb hml hown ht hX (P_u3 0 hP) hS wX4_slotOfKey kML_RX8_138 rfl rfl ⟨Nat.le_of_ble_eq_true rfl, Nat.le_of_ble_eq_true rfl⟩ (va_recv hX.1 hP rfl (cw_nodes (i := 0) (by decide))) rfl hl.1 rfl (Nat.le_of_ble_eq_true rfl) dX8_key_10 (fun H locs hP hS => ?_)
  rw [u3_self] at hP
  refine lv_istore (lv' := [(4, .int q1), (3, .ref (ad (10 * 0 + 1))), (0, .ref (ad 160)), (1, .int x1), (2, .int x2)]) hx hb dX8_key_13 hl (by decide) rfl (fun ls hl => ?_)
  refine lv_iload hx hb dX8_key_15 (lv_at hl 0 rfl) ?_
  refine lv_iconst (v := (-1 : Int32)) hx hb dX8_key_17 (by decide) ?_
  refine lv_icmp_ne (tgt := 24) hx hb dX8_key_18 (by decide) (fun hc2 => ?_) (fun hc2 => ?_)
  · rw [if_neg hc2] at hf
    refine lv_iload_n hx hb dX8_key_24 rfl (lv_at hl 4 rfl) ?_
    by_cases hs0 : x2 = (0 : Int32)
    · rw [if_pos hs0] at hf
      refine lv_tableIn (off := 27) (tgt := 52) hx hb dX8_key_25 (by rw [hs0]; decide) (by rw [hs0]; decide) (by rw [hs0]; rfl) (by decide) ?_
      refine lv_aload_n hx hb dX8_key_52 rfl (lv_at hl 1 rfl) ?_
      refine lv_iload hx hb dX8_key_53 (lv_at hl 0 rfl) ?_
      obtain ⟨q3, hq3, hf⟩ := obE hf
      refine ct_cVi (rest := []) (tX4_worthOf hD (by decide) hq3) hx hb hml hown ht hX (P_u3 0 hP) hS wX4_worthOf kML_RX8_141 rfl rfl ⟨Nat.le_of_ble_eq_true rfl, Nat.le_of_ble_eq_true rfl⟩ (va_recv hX.1 hP rfl (cw_nodes (i := 0) (by decide))) rfl hl.1 rfl (Nat.le_of_ble_eq_true rfl) dX8_key_55 (fun H locs hP hS => ?_)
      rw [u3_self] at hP
      have e0 := Option.some.inj hf
      subst e0
      exact hret _ _ _ _ hP hS dX8_key_58
    · rw [if_neg hs0] at hf
      by_cases hs1 : x2 = (1 : Int32)
      · rw [if_pos hs1] at hf
        refine lv_tableIn (off := 34) (tgt := 59) hx hb dX8_key_25 (by rw [hs1]; decide) (by rw [hs1]; decide) (by rw [hs1]; rfl) (by decide) ?_
        refine lv_aload_n hx hb dX8_key_59 rfl (lv_at hl 1 rfl) ?_
        refine lv_iload hx hb dX8_key_60 (lv_at hl 0 rfl) ?_
        obtain ⟨q4, hq4, hf⟩ := obE hf
        refine ct_cVi (rest := []) (tX4_numberOfSlot hD (by decide) hq4) hx hb hml hown ht hX (P_u3 0 hP) hS wX4_numberOfSlot kML_RX8_121 rfl rfl ⟨Nat.le_of_ble_eq_true rfl, Nat.le_of_ble_eq_true rfl⟩ (va_recv hX.1 hP rfl (cw_nodes (i := 0) (by decide))) rfl hl.1 rfl (Nat.le_of_ble_eq_true rfl) dX8_key_62 (fun H locs hP hS => ?_)
        rw [u3_self] at hP
        have e0 := Option.some.inj hf
        subst e0
        exact hret _ _ _ _ hP hS dX8_key_65
      · rw [if_neg hs1] at hf
        by_cases hs2 : x2 = (2 : Int32)
        · rw [if_pos hs2] at hf
          refine lv_tableIn (off := 41) (tgt := 66) hx hb dX8_key_25 (by rw [hs2]; decide) (by rw [hs2]; decide) (by rw [hs2]; rfl) (by decide) ?_
          refine lv_aload_n hx hb dX8_key_66 rfl (lv_at hl 1 rfl) ?_
          refine lv_iload_n hx hb dX8_key_67 rfl (lv_at hl 3 rfl) ?_
          obtain ⟨q5, hq5, hf⟩ := obE hf
          refine ct_cSi (rest := []) (tX6_howManyLess hD (by decide) hq5) hx hb hml hown ht hX (P_u3 0 hP) hS wX6_howManyLess kML_RX8_144 rfl rfl ⟨Nat.le_of_ble_eq_true rfl, Nat.le_of_ble_eq_true rfl⟩ rfl hl.1 rfl (Nat.le_of_ble_eq_true rfl) dX8_key_68 (fun H locs hP hS => ?_)
          rw [u3_self] at hP
          have e0 := Option.some.inj hf
          subst e0
          exact hret _ _ _ _ hP hS dX8_key_71
        · rw [if_neg hs2] at hf
          have hz0 : ¬ (x2).toInt = 0 := lv_neT hs0 (by decide)
          have hz1 : ¬ (x2).toInt = 1 := lv_neT hs1 (by decide)
          have hz2 : ¬ (x2).toInt = 2 := lv_neT hs2 (by decide)
          refine lv_tableOut (tgt := 72) hx hb dX8_key_25 (by omega) (by decide) ?_
          refine lv_ldc hx hb hown (ht _ kKI_RX8_110) dX8_key_72 ?_
          have e0 := Option.some.inj hf
          subst e0
          exact hret _ _ _ _ hP hS dX8_key_74
  · rw [if_pos hc2] at hf
    refine lv_ldc hx hb hown (ht _ kKI_RX8_114) dX8_key_21 ?_
    have e0 := Option.some.inj hf
    subst e0
    exact hret _ _ _ _ hP hS dX8_key_23
def fX8_at_34 (F : Nat) (σ : Sig) : Nat → Int32 → Int32 → Int32 → Option (Int32)
  | 0, _, _, _ => none
  | n + 1, x1, x3, x4 => if x1 ≤ x4 then ((fX4_keyOf F (σ 0) x3).bind fun q5 => (some q5)) else ((fX4_nextRising F (σ 0) x3).bind fun q6 => (fX8_at_34 F σ n x1 q6 (x4 + (1 : Int32))))
def fX8_at (F : Nat) (σ : Sig) (x1 : Int32) : Option (Int32) := if x1 < 0 then (some (-1 : Int32)) else (if x1 < (σ 0 6 1) then ((fX4_leastBelow F (σ 0) (σ 0 6 0)).bind fun q3 => (fX8_at_34 F σ F x1 q3 (0 : Int32))) else (some (-1 : Int32)))
abbrev rX8_at : Room := { frames := 4, cells := 0, slots := 0, locals := 91 }
theorem wX8_at : kV yX8_at cX8_at 5 (some .int) 1 := ⟨kCO_yX8_at, kIM_yX8_at, kSE_yX8_at, kIN_RX8, by decide +kernel, by decide +kernel, by decide +kernel⟩
set_option maxHeartbeats 4000000 in
set_option maxRecDepth 100000 in
theorem tX8_at {l : Launch} {D : va_G} {cI cT cM : ClassId} {ad : Nat → Nat} (hD : gInj 167 ad) {F : Nat} {σ : Sig} {x1 : Int32} {res : Int32} (hf : fX8_at F σ x1 = some res) : CTi l yX8_at cX8_at 5 .int rX8_at D (cTy cI cT cM) (gA 167 ad) [.ref (ad 160), .int x1] (cw cI cT cM ad σ) res (cw cI cT cM ad σ) := by
  refine ct_int (by decide) (Nat.le_of_ble_eq_true rfl) ?_
  intro p e s m args below meth c Q ls hx hb hml hown ht hX hret hP hS hl
  have hl : lv_has ls 5 [(0, .ref (ad 160)), (1, .int x1)] := hl
  have blk34 : ∀ (n34 : Nat) (H : Heap) (locs : List Loc) (x1 : Int32) (x3 : Int32) (x4 : Int32) (ls : Array Slot), va_P D vwCl (cw cI cT cM ad σ) H → va_S (gA 167 ad) s.heap H locs → lv_has ls 5 [(1, .int x1), (2, .ref (ad (10 * 0 + 1))), (3, .int x3), (4, .int x4)] → fX8_at_34 F σ n34 x1 x3 x4 = some res → W p l e rX8_at s m args below meth c H locs 0 0 Q (F0 m 34 ls []) := by
    intro n34
    induction n34 with
    | zero =>
      intro H locs x1 x3 x4 ls hP hS hl hf
      rw [fX8_at_34] at hf
      cases hf
    | succ n34 ih34 =>
      skip
      intro H locs x1 x3 x4 ls hP hS hl hf
      rw [fX8_at_34] at hf
      refine lv_iload hx hb dX8_at_34 (lv_at hl 3 rfl) ?_
      refine lv_iload_n hx hb dX8_at_36 rfl (lv_at hl 0 rfl) ?_
      refine lv_icmp_ge (tgt := 52) hx hb dX8_at_37 (by decide) (fun hc4 => ?_) (fun hc4 => ?_)
      · rw [if_pos hc4] at hf
        refine lv_aload_n hx hb dX8_at_52 rfl (lv_at hl 1 rfl) ?_
        refine lv_iload_n hx hb dX8_at_53 rfl (lv_at hl 2 rfl) ?_
        obtain ⟨q5, hq5, hf⟩ := obE hf
        refine ct_cVi (rest := []) (tX4_keyOf hD (by decide) hq5) hx hb hml hown ht hX (P_u3 0 hP) hS wX4_keyOf kML_RX8_53 rfl rfl ⟨Nat.le_of_ble_eq_true rfl, Nat.le_of_ble_eq_true rfl⟩ (va_recv hX.1 hP rfl (cw_nodes (i := 0) (by decide))) rfl hl.1 rfl (Nat.le_of_ble_eq_true rfl) dX8_at_54 (fun H locs hP hS => ?_)
        rw [u3_self] at hP
        have e0 := Option.some.inj hf
        subst e0
        exact hret _ _ _ _ hP hS dX8_at_57
      · rw [if_neg hc4] at hf
        refine lv_aload_n hx hb dX8_at_40 rfl (lv_at hl 1 rfl) ?_
        refine lv_iload_n hx hb dX8_at_41 rfl (lv_at hl 2 rfl) ?_
        obtain ⟨q6, hq6, hf⟩ := obE hf
        refine ct_cVi (rest := []) (tX4_nextRising hD (by decide) hq6) hx hb hml hown ht hX (P_u3 0 hP) hS wX4_nextRising kML_RX8_150 rfl rfl ⟨Nat.le_of_ble_eq_true rfl, Nat.le_of_ble_eq_true rfl⟩ (va_recv hX.1 hP rfl (cw_nodes (i := 0) (by decide))) rfl hl.1 rfl (Nat.le_of_ble_eq_true rfl) dX8_at_42 (fun H locs hP hS => ?_)
        rw [u3_self] at hP
        refine lv_istore_n (lv' := [(3, .int q6), (1, .int x1), (2, .ref (ad (10 * 0 + 1))), (4, .int x4)]) hx hb dX8_at_45 rfl hl (by decide) rfl (fun ls hl => ?_)
        refine lv_iinc (v := x4 + (1 : Int32)) (lv' := [(4, .int (x4 + (1 : Int32))), (3, .int q6), (1, .int x1), (2, .ref (ad (10 * 0 + 1)))]) hx hb dX8_at_46 hl (k := 3) rfl rfl (by decide) rfl (fun ls hl => ?_)
        refine lv_goto (tgt := 34) hx hb dX8_at_49 (by decide) ?_
        exact ih34 _ _ x1 q6 (x4 + (1 : Int32)) ls hP hS (lv_sub hl [2, 3, 1, 0] rfl) hf
  unfold fX8_at at hf
  refine lv_aload_n hx hb dX8_at_0 rfl (lv_at hl 0 rfl) ?_
  refine va_get (ci := 6) (v := .ref (ad (10 * 0))) hx hb ht i_X8 hown hX.1 hP 160 cw_ri rfl 0 (by decide) (ht _ kFL_RX8_10) (fun _ h9 => h9) rfl dX8_at_1 ?_
  refine va_get (ci := 5) (v := .ref (ad (10 * 0 + 1))) hx hb ht i_X7 hown hX.1 hP (10 * 0) (cw_tree (i := 0) (by decide)) rfl 0 (by decide) (ht _ kFL_RX8_40) (fun _ h9 => h9) rfl dX8_at_4 ?_
  refine lv_astore_n (lv' := [(2, .ref (ad (10 * 0 + 1))), (0, .ref (ad 160)), (1, .int x1)]) hx hb dX8_at_7 rfl hl (by decide) rfl (fun ls hl => ?_)
  refine lv_iload_n hx hb dX8_at_8 rfl (lv_at hl 2 rfl) ?_
  refine lv_if_lt (tgt := 20) hx hb dX8_at_9 (by decide) (fun hc1 => ?_) (fun hc1 => ?_)
  · rw [if_pos hc1] at hf
    refine lv_iconst (v := (-1 : Int32)) hx hb dX8_at_20 (by decide) ?_
    have e0 := Option.some.inj hf
    subst e0
    exact hret _ _ _ _ hP hS dX8_at_21
  · rw [if_neg hc1] at hf
    refine lv_iload_n hx hb dX8_at_12 rfl (lv_at hl 2 rfl) ?_
    refine lv_aload_n hx hb dX8_at_13 rfl (lv_at hl 0 rfl) ?_
    refine va_get (ci := 3) (v := .int (σ 0 6 1)) hx hb ht i_X4 hown hX.1 hP (10 * 0 + 1) (cw_nodes (i := 0) (by decide)) rfl 7 (by decide) (ht _ kFL_RX8_44) (fun _ h9 => h9) rfl dX8_at_14 ?_
    refine lv_icmp_lt (tgt := 22) hx hb dX8_at_17 (by decide) (fun hc2 => ?_) (fun hc2 => ?_)
    · rw [if_pos hc2] at hf
      refine lv_aload_n hx hb dX8_at_22 rfl (lv_at hl 0 rfl) ?_
      refine lv_aload_n hx hb dX8_at_23 rfl (lv_at hl 0 rfl) ?_
      refine va_get (ci := 3) (v := .int (σ 0 6 0)) hx hb ht i_X4 hown hX.1 hP (10 * 0 + 1) (cw_nodes (i := 0) (by decide)) rfl 6 (by decide) (ht _ kFL_RX8_50) (fun _ h9 => h9) rfl dX8_at_24 ?_
      obtain ⟨q3, hq3, hf⟩ := obE hf
      refine ct_cVi (rest := []) (tX4_leastBelow hD (by decide) hq3) hx hb hml hown ht hX (P_u3 0 hP) hS wX4_leastBelow kML_RX8_147 rfl rfl ⟨Nat.le_of_ble_eq_true rfl, Nat.le_of_ble_eq_true rfl⟩ (va_recv hX.1 hP rfl (cw_nodes (i := 0) (by decide))) rfl hl.1 rfl (Nat.le_of_ble_eq_true rfl) dX8_at_27 (fun H locs hP hS => ?_)
      rw [u3_self] at hP
      refine lv_istore_n (lv' := [(3, .int q3), (2, .ref (ad (10 * 0 + 1))), (0, .ref (ad 160)), (1, .int x1)]) hx hb dX8_at_30 rfl hl (by decide) rfl (fun ls hl => ?_)
      refine lv_iconst (v := (0 : Int32)) hx hb dX8_at_31 (by decide) ?_
      refine lv_istore (lv' := [(4, .int ((0 : Int32))), (3, .int q3), (2, .ref (ad (10 * 0 + 1))), (0, .ref (ad 160)), (1, .int x1)]) hx hb dX8_at_32 hl (by decide) rfl (fun ls hl => ?_)
      exact blk34 F _ _ x1 q3 (0 : Int32) ls hP hS (lv_sub hl [4, 2, 1, 0] rfl) hf
    · rw [if_neg hc2] at hf
      refine lv_iconst (v := (-1 : Int32)) hx hb dX8_at_20 (by decide) ?_
      have e0 := Option.some.inj hf
      subst e0
      exact hret _ _ _ _ hP hS dX8_at_21
def fX8_isKey (F : Nat) (x0 : Int32) : Option (Int32) := (fX8_isWithin F x0 (0 : Int32) (99999 : Int32)).bind fun q1 => (if q1 = 0 ∨ q1 = 1 then some q1 else none)
abbrev rX8_isKey : Room := { frames := 1, cells := 0, slots := 0, locals := 22 }
theorem wX8_isKey : kF yX8_isKey cX8_isKey 1 (some .boolean) 1 := ⟨kCO_yX8_isKey, kSM_yX8_isKey, kIN_RX8, by decide +kernel, by decide +kernel, by decide +kernel⟩
set_option maxHeartbeats 4000000 in
set_option maxRecDepth 100000 in
theorem tX8_isKey {l : Launch} {D : va_G} {cI cT cM : ClassId} {ad : Nat → Nat} (hD : gInj 167 ad) {F : Nat} {σ : Sig} {x0 : Int32} {res : Int32} (hf : fX8_isKey F x0 = some res) : CTi l yX8_isKey cX8_isKey 1 .boolean rX8_isKey D (cTy cI cT cM) (gA 167 ad) [.int x0] (cw cI cT cM ad σ) res (cw cI cT cM ad σ) := by
  refine ct_bool (by decide) (Nat.le_of_ble_eq_true rfl) ?_
  intro p e s m args below meth c Q ls hx hb hml hown ht hX hret hP hS hl
  have hl : lv_has ls 1 [(0, .int x0)] := hl
  unfold fX8_isKey at hf
  refine lv_iload_n hx hb dX8_isKey_0 rfl (lv_at hl 0 rfl) ?_
  refine lv_iconst (v := (0 : Int32)) hx hb dX8_isKey_1 (by decide) ?_
  refine lv_ldc hx hb hown (ht _ kKI_RX8_66) dX8_isKey_2 ?_
  obtain ⟨q1, hq1, hf⟩ := obE hf
  refine ct_cSi (rest := []) (tX8_isWithin hD hq1) hx hb hml hown ht hX hP hS wX8_isWithin kML_RX8_185 rfl rfl ⟨Nat.le_of_ble_eq_true rfl, Nat.le_of_ble_eq_true rfl⟩ rfl hl.1 rfl (Nat.le_of_ble_eq_true rfl) dX8_isKey_4 (fun H locs hP hS => ?_)
  obtain ⟨h01, hf⟩ := psE _ hf
  have e0 := Option.some.inj hf
  subst e0
  exact hret _ _ _ _ h01 hP hS dX8_isKey_7
def fX8_isWorth (F : Nat) (x0 : Int32) : Option (Int32) := (fX8_isWithin F x0 (0 : Int32) (9999 : Int32)).bind fun q1 => (if q1 = 0 ∨ q1 = 1 then some q1 else none)
abbrev rX8_isWorth : Room := { frames := 1, cells := 0, slots := 0, locals := 22 }
theorem wX8_isWorth : kF yX8_isWorth cX8_isWorth 1 (some .boolean) 1 := ⟨kCO_yX8_isWorth, kSM_yX8_isWorth, kIN_RX8, by decide +kernel, by decide +kernel, by decide +kernel⟩
set_option maxHeartbeats 4000000 in
set_option maxRecDepth 100000 in
theorem tX8_isWorth {l : Launch} {D : va_G} {cI cT cM : ClassId} {ad : Nat → Nat} (hD : gInj 167 ad) {F : Nat} {σ : Sig} {x0 : Int32} {res : Int32} (hf : fX8_isWorth F x0 = some res) : CTi l yX8_isWorth cX8_isWorth 1 .boolean rX8_isWorth D (cTy cI cT cM) (gA 167 ad) [.int x0] (cw cI cT cM ad σ) res (cw cI cT cM ad σ) := by
  refine ct_bool (by decide) (Nat.le_of_ble_eq_true rfl) ?_
  intro p e s m args below meth c Q ls hx hb hml hown ht hX hret hP hS hl
  have hl : lv_has ls 1 [(0, .int x0)] := hl
  unfold fX8_isWorth at hf
  refine lv_iload_n hx hb dX8_isWorth_0 rfl (lv_at hl 0 rfl) ?_
  refine lv_iconst (v := (0 : Int32)) hx hb dX8_isWorth_1 (by decide) ?_
  refine lv_sipush (v := (9999 : Int32)) hx hb dX8_isWorth_2 (by decide) ?_
  obtain ⟨q1, hq1, hf⟩ := obE hf
  refine ct_cSi (rest := []) (tX8_isWithin hD hq1) hx hb hml hown ht hX hP hS wX8_isWithin kML_RX8_185 rfl rfl ⟨Nat.le_of_ble_eq_true rfl, Nat.le_of_ble_eq_true rfl⟩ rfl hl.1 rfl (Nat.le_of_ble_eq_true rfl) dX8_isWorth_5 (fun H locs hP hS => ?_)
  obtain ⟨h01, hf⟩ := psE _ hf
  have e0 := Option.some.inj hf
  subst e0
  exact hret _ _ _ _ h01 hP hS dX8_isWorth_8
def fX8_isThere (F : Nat) (σ : Sig) (x1 : Int32) : Option (Int32) := (fX4_slotOfKey F (σ 0) x1).bind fun q1 => (if q1 = (-1 : Int32) then (some (0 : Int32)) else (some (1 : Int32)))
abbrev rX8_isThere : Room := { frames := 2, cells := 0, slots := 0, locals := 45 }
theorem wX8_isThere : kV yX8_isThere cX8_isThere 2 (some .boolean) 1 := ⟨kCO_yX8_isThere, kIM_yX8_isThere, kSE_yX8_isThere, kIN_RX8, by decide +kernel, by decide +kernel, by decide +kernel⟩
set_option maxHeartbeats 4000000 in
set_option maxRecDepth 100000 in
theorem tX8_isThere {l : Launch} {D : va_G} {cI cT cM : ClassId} {ad : Nat → Nat} (hD : gInj 167 ad) {F : Nat} {σ : Sig} {x1 : Int32} {res : Int32} (hf : fX8_isThere F σ x1 = some res) : CTi l yX8_isThere cX8_isThere 2 .boolean rX8_isThere D (cTy cI cT cM) (gA 167 ad) [.ref (ad 160), .int x1] (cw cI cT cM ad σ) res (cw cI cT cM ad σ) := by
  refine ct_bool (by decide) (Nat.le_of_ble_eq_true rfl) ?_
  intro p e s m args below meth c Q ls hx hb hml hown ht hX hret hP hS hl
  have hl : lv_has ls 2 [(0, .ref (ad 160)), (1, .int x1)] := hl
  unfold fX8_isThere at hf
  refine lv_aload_n hx hb dX8_isThere_0 rfl (lv_at hl 0 rfl) ?_
  refine va_get (ci := 6) (v := .ref (ad (10 * 0))) hx hb ht i_X8 hown hX.1 hP 160 cw_ri rfl 0 (by decide) (ht _ kFL_RX8_10) (fun _ h9 => h9) rfl dX8_isThere_1 ?_
  refine va_get (ci := 5) (v := .ref (ad (10 * 0 + 1))) hx hb ht i_X7 hown hX.1 hP (10 * 0) (cw_tree (i := 0) (by decide)) rfl 0 (by decide) (ht _ kFL_RX8_40) (fun _ h9 => h9) rfl dX8_isThere_4 ?_
  refine lv_iload_n hx hb dX8_isThere_7 rfl (lv_at hl 1 rfl) ?_
  obtain ⟨q1, hq1, hf⟩ := obE hf
  refine ct_cVi (rest := []) (tX4_slotOfKey hD (by decide) hq1) hx hb hml hown ht hX (P_u3 0 hP) hS wX4_slotOfKey kML_RX8_138 rfl rfl ⟨Nat.le_of_ble_eq_true rfl, Nat.le_of_ble_eq_true rfl⟩ (va_recv hX.1 hP rfl (cw_nodes (i := 0) (by decide))) rfl hl.1 rfl (Nat.le_of_ble_eq_true rfl) dX8_isThere_8 (fun H locs hP hS => ?_)
  rw [u3_self] at hP
  refine lv_iconst (v := (-1 : Int32)) hx hb dX8_isThere_11 (by decide) ?_
  refine lv_icmp_eq (tgt := 19) hx hb dX8_isThere_12 (by decide) (fun hc2 => ?_) (fun hc2 => ?_)
  · rw [if_pos hc2] at hf
    refine lv_iconst (v := (0 : Int32)) hx hb dX8_isThere_19 (by decide) ?_
    have e0 := Option.some.inj hf
    subst e0
    exact hret _ _ _ _ (Or.inl rfl) hP hS dX8_isThere_20
  · rw [if_neg hc2] at hf
    refine lv_iconst (v := (1 : Int32)) hx hb dX8_isThere_15 (by decide) ?_
    refine lv_goto (tgt := 20) hx hb dX8_isThere_16 (by decide) ?_
    have e0 := Option.some.inj hf
    subst e0
    exact hret _ _ _ _ (Or.inr rfl) hP hS dX8_isThere_20
def fX8_hasRoom (F : Nat) (σ : Sig) : Option (Int32) := if (60 : Int32) ≤ (σ 0 6 1) then (some (0 : Int32)) else (some (1 : Int32))
abbrev rX8_hasRoom : Room := { frames := 0, cells := 0, slots := 0, locals := 0 }
theorem wX8_hasRoom : kV yX8_hasRoom cX8_hasRoom 1 (some .boolean) 0 := ⟨kCO_yX8_hasRoom, kIM_yX8_hasRoom, kSE_yX8_hasRoom, kIN_RX8, by decide +kernel, by decide +kernel, by decide +kernel⟩
set_option maxHeartbeats 4000000 in
set_option maxRecDepth 100000 in
theorem tX8_hasRoom {l : Launch} {D : va_G} {cI cT cM : ClassId} {ad : Nat → Nat} (hD : gInj 167 ad) {F : Nat} {σ : Sig} {res : Int32} (hf : fX8_hasRoom F σ = some res) : CTi l yX8_hasRoom cX8_hasRoom 1 .boolean rX8_hasRoom D (cTy cI cT cM) (gA 167 ad) [.ref (ad 160)] (cw cI cT cM ad σ) res (cw cI cT cM ad σ) := by
  refine ct_bool (by decide) (Nat.le_of_ble_eq_true rfl) ?_
  intro p e s m args below meth c Q ls hx hb hml hown ht hX hret hP hS hl
  have hl : lv_has ls 1 [(0, .ref (ad 160))] := hl
  unfold fX8_hasRoom at hf
  refine lv_aload_n hx hb dX8_hasRoom_0 rfl (lv_at hl 0 rfl) ?_
  refine va_get (ci := 6) (v := .ref (ad (10 * 0))) hx hb ht i_X8 hown hX.1 hP 160 cw_ri rfl 0 (by decide) (ht _ kFL_RX8_10) (fun _ h9 => h9) rfl dX8_hasRoom_1 ?_
  refine va_get (ci := 5) (v := .ref (ad (10 * 0 + 1))) hx hb ht i_X7 hown hX.1 hP (10 * 0) (cw_tree (i := 0) (by decide)) rfl 0 (by decide) (ht _ kFL_RX8_40) (fun _ h9 => h9) rfl dX8_hasRoom_4 ?_
  refine va_get (ci := 3) (v := .int (σ 0 6 1)) hx hb ht i_X4 hown hX.1 hP (10 * 0 + 1) (cw_nodes (i := 0) (by decide)) rfl 7 (by decide) (ht _ kFL_RX8_44) (fun _ h9 => h9) rfl dX8_hasRoom_7 ?_
  refine lv_bipush (v := (60 : Int32)) hx hb dX8_hasRoom_10 (by decide) ?_
  refine lv_icmp_ge (tgt := 19) hx hb dX8_hasRoom_12 (by decide) (fun hc1 => ?_) (fun hc1 => ?_)
  · rw [if_pos hc1] at hf
    refine lv_iconst (v := (0 : Int32)) hx hb dX8_hasRoom_19 (by decide) ?_
    have e0 := Option.some.inj hf
    subst e0
    exact hret _ _ _ _ (Or.inl rfl) hP hS dX8_hasRoom_20
  · rw [if_neg hc1] at hf
    refine lv_iconst (v := (1 : Int32)) hx hb dX8_hasRoom_15 (by decide) ?_
    refine lv_goto (tgt := 20) hx hb dX8_hasRoom_16 (by decide) ?_
    have e0 := Option.some.inj hf
    subst e0
    exact hret _ _ _ _ (Or.inr rfl) hP hS dX8_hasRoom_20
def fX8_put (F : Nat) (σ : Sig) (x1 : Int32) (x2 : Int32) : Option (Int32 × Sig) := (fX8_isKey F x1).bind fun q1 => (if q1 = 0 then (some ((-1000000002 : Int32), σ)) else ((fX8_isWorth F x2).bind fun q3 => (if q3 = 0 then (some ((-1000000002 : Int32), σ)) else ((fX8_isThere F σ x1).bind fun q5 => (if q5 = 0 then ((fX8_hasRoom F σ).bind fun q7 => (if q7 = 0 then (some ((-1000000004 : Int32), σ)) else ((fX5_remember F σ).bind fun q9 => ((fX7_add F (q9 0) x1 x2).bind fun q10 => (some ((u3 q9 0 q10) 0 8 2, u3 q9 0 q10)))))) else (some ((-1000000003 : Int32), σ)))))))
abbrev rX8_put : Room := { frames := 5, cells := 0, slots := 0, locals := 123 }
theorem wX8_put : kV yX8_put cX8_put 3 (some .int) 2 := ⟨kCO_yX8_put, kIM_yX8_put, kSE_yX8_put, kIN_RX8, by decide +kernel, by decide +kernel, by decide +kernel⟩
set_option maxHeartbeats 4000000 in
set_option maxRecDepth 100000 in
theorem tX8_put {l : Launch} {D : va_G} {cI cT cM : ClassId} {ad : Nat → Nat} (hD : gInj 167 ad) {F : Nat} {σ : Sig} {x1 : Int32} {x2 : Int32} {res : Int32 × Sig} (hf : fX8_put F σ x1 x2 = some res) : CTi l yX8_put cX8_put 3 .int rX8_put D (cTy cI cT cM) (gA 167 ad) [.ref (ad 160), .int x1, .int x2] (cw cI cT cM ad σ) res.1 (cw cI cT cM ad res.2) := by
  refine ct_int (by decide) (Nat.le_of_ble_eq_true rfl) ?_
  intro p e s m args below meth c Q ls hx hb hml hown ht hX hret hP hS hl
  have hl : lv_has ls 3 [(0, .ref (ad 160)), (1, .int x1), (2, .int x2)] := hl
  unfold fX8_put at hf
  refine lv_iload_n hx hb dX8_put_0 rfl (lv_at hl 1 rfl) ?_
  obtain ⟨q1, hq1, hf⟩ := obE hf
  refine ct_cSi (rest := []) (tX8_isKey hD hq1) hx hb hml hown ht hX hP hS wX8_isKey kML_RX8_153 rfl rfl ⟨Nat.le_of_ble_eq_true rfl, Nat.le_of_ble_eq_true rfl⟩ rfl hl.1 rfl (Nat.le_of_ble_eq_true rfl) dX8_put_1 (fun H locs hP hS => ?_)
  refine lv_if_eq (tgt := 14) hx hb dX8_put_4 (by decide) (fun hc2 => ?_) (fun hc2 => ?_)
  · rw [if_pos hc2] at hf
    refine lv_ldc hx hb hown (ht _ kKI_RX8_110) dX8_put_14 ?_
    have e0 := Option.some.inj hf
    subst e0
    exact hret _ _ _ _ hP hS dX8_put_16
  · rw [if_neg hc2] at hf
    refine lv_iload_n hx hb dX8_put_7 rfl (lv_at hl 2 rfl) ?_
    obtain ⟨q3, hq3, hf⟩ := obE hf
    refine ct_cSi (rest := []) (tX8_isWorth hD hq3) hx hb hml hown ht hX hP hS wX8_isWorth kML_RX8_157 rfl rfl ⟨Nat.le_of_ble_eq_true rfl, Nat.le_of_ble_eq_true rfl⟩ rfl hl.1 rfl (Nat.le_of_ble_eq_true rfl) dX8_put_8 (fun H locs hP hS => ?_)
    refine lv_if_ne (tgt := 17) hx hb dX8_put_11 (by decide) (fun hc4 => ?_) (fun hc4 => ?_)
    · rw [if_neg hc4] at hf
      refine lv_aload_n hx hb dX8_put_17 rfl (lv_at hl 0 rfl) ?_
      refine lv_iload_n hx hb dX8_put_18 rfl (lv_at hl 1 rfl) ?_
      obtain ⟨q5, hq5, hf⟩ := obE hf
      refine ct_cVi (rest := []) (tX8_isThere hD hq5) hx hb hml hown ht hX hP hS wX8_isThere kML_RX8_160 rfl rfl ⟨Nat.le_of_ble_eq_true rfl, Nat.le_of_ble_eq_true rfl⟩ (va_recv hX.1 hP rfl cw_ri) rfl hl.1 rfl (Nat.le_of_ble_eq_true rfl) dX8_put_19 (fun H locs hP hS => ?_)
      refine lv_if_eq (tgt := 28) hx hb dX8_put_22 (by decide) (fun hc6 => ?_) (fun hc6 => ?_)
      · rw [if_pos hc6] at hf
        refine lv_aload_n hx hb dX8_put_28 rfl (lv_at hl 0 rfl) ?_
        obtain ⟨q7, hq7, hf⟩ := obE hf
        refine ct_cVi (rest := []) (tX8_hasRoom hD hq7) hx hb hml hown ht hX hP hS wX8_hasRoom kML_RX8_164 rfl rfl ⟨Nat.le_of_ble_eq_true rfl, Nat.le_of_ble_eq_true rfl⟩ (va_recv hX.1 hP rfl cw_ri) rfl hl.1 rfl (Nat.le_of_ble_eq_true rfl) dX8_put_29 (fun H locs hP hS => ?_)
        refine lv_if_ne (tgt := 38) hx hb dX8_put_32 (by decide) (fun hc8 => ?_) (fun hc8 => ?_)
        · rw [if_neg hc8] at hf
          refine lv_aload_n hx hb dX8_put_38 rfl (lv_at hl 0 rfl) ?_
          refine va_get (ci := 6) (v := .ref (ad 161)) hx hb ht i_X8 hown hX.1 hP 160 cw_ri rfl 2 (by decide) (ht _ kFL_RX8_22) (fun _ h9 => h9) rfl dX8_put_39 ?_
          refine lv_aload_n hx hb dX8_put_42 rfl (lv_at hl 0 rfl) ?_
          refine va_get (ci := 6) (v := .ref (ad (10 * 0))) hx hb ht i_X8 hown hX.1 hP 160 cw_ri rfl 0 (by decide) (ht _ kFL_RX8_10) (fun _ h9 => h9) rfl dX8_put_43 ?_
          obtain ⟨q9, hq9, hf⟩ := obE hf
          refine ct_cVv (rest := []) (tX5_remember hD hq9) hx hb hml hown ht hX hP hS wX5_remember kML_RX8_169 rfl rfl ⟨Nat.le_of_ble_eq_true rfl, Nat.le_of_ble_eq_true rfl⟩ (va_recv hX.1 hP rfl cw_past) rfl hl.1 rfl (Nat.le_of_ble_eq_true rfl) dX8_put_46 (fun H locs hP hS => ?_)
          refine lv_aload_n hx hb dX8_put_49 rfl (lv_at hl 0 rfl) ?_
          refine va_get (ci := 6) (v := .ref (ad (10 * 0))) hx hb ht i_X8 hown hX.1 hP 160 cw_ri rfl 0 (by decide) (ht _ kFL_RX8_10) (fun _ h9 => h9) rfl dX8_put_50 ?_
          refine lv_iload_n hx hb dX8_put_53 rfl (lv_at hl 1 rfl) ?_
          refine lv_iload_n hx hb dX8_put_54 rfl (lv_at hl 2 rfl) ?_
          obtain ⟨q10, hq10, hf⟩ := obE hf
          refine ct_cVv (rest := []) (tX7_add hD (by decide) hq10) hx hb hml hown ht hX (P_u3 0 hP) hS wX7_add kML_RX8_173 rfl rfl ⟨Nat.le_of_ble_eq_true rfl, Nat.le_of_ble_eq_true rfl⟩ (va_recv hX.1 hP rfl (cw_tree (i := 0) (by decide))) rfl hl.1 rfl (Nat.le_of_ble_eq_true rfl) dX8_put_55 (fun H locs hP hS => ?_)
          refine lv_aload_n hx hb dX8_put_58 rfl (lv_at hl 0 rfl) ?_
          refine va_get (ci := 6) (v := .ref (ad (10 * 0))) hx hb ht i_X8 hown hX.1 hP 160 cw_ri rfl 0 (by decide) (ht _ kFL_RX8_10) (fun _ h9 => h9) rfl dX8_put_59 ?_
          refine va_get (ci := 5) (v := .ref (ad (10 * 0 + (1 + 8)))) hx hb ht i_X7 hown hX.1 hP (10 * 0) (cw_tree (i := 0) (by decide)) rfl 2 (by decide) (ht _ kFL_RX8_86) (fun _ h9 => h9) rfl dX8_put_62 ?_
          refine va_get (ci := 0) (v := .int ((u3 q9 0 q10) 0 8 2)) hx hb ht i_X1 hown hX.1 hP (10 * 0 + (1 + 8)) (cw_cnt (i := 0) (by decide) (Or.inr rfl)) rfl 2 (by decide) (ht _ kFL_RX8_83) (fun _ h9 => h9) rfl dX8_put_65 ?_
          have e0 := Option.some.inj hf
          subst e0
          exact hret _ _ _ _ hP hS dX8_put_68
        · rw [if_pos hc8] at hf
          refine lv_ldc hx hb hown (ht _ kKI_RX8_168) dX8_put_35 ?_
          have e0 := Option.some.inj hf
          subst e0
          exact hret _ _ _ _ hP hS dX8_put_37
      · rw [if_neg hc6] at hf
        refine lv_ldc hx hb hown (ht _ kKI_RX8_163) dX8_put_25 ?_
        have e0 := Option.some.inj hf
        subst e0
        exact hret _ _ _ _ hP hS dX8_put_27
    · rw [if_pos hc4] at hf
      refine lv_ldc hx hb hown (ht _ kKI_RX8_110) dX8_put_14 ?_
      have e0 := Option.some.inj hf
      subst e0
      exact hret _ _ _ _ hP hS dX8_put_16
def fX8_take (F : Nat) (σ : Sig) (x1 : Int32) : Option (Int32 × Sig) := (fX8_isKey F x1).bind fun q1 => (if q1 = 0 then (some ((-1000000002 : Int32), σ)) else ((fX4_slotOfKey F (σ 0) x1).bind fun q3 => (if q3 = (-1 : Int32) then (some ((-1000000003 : Int32), σ)) else ((fX4_worthOf F (σ 0) q3).bind fun q5 => ((fX5_remember F σ).bind fun q6 => ((fX7_remove F (q6 0) q3).bind fun q7 => (some (q5, u3 q6 0 q7))))))))
abbrev rX8_take : Room := { frames := 5, cells := 0, slots := 0, locals := 123 }
theorem wX8_take : kV yX8_take cX8_take 4 (some .int) 1 := ⟨kCO_yX8_take, kIM_yX8_take, kSE_yX8_take, kIN_RX8, by decide +kernel, by decide +kernel, by decide +kernel⟩
set_option maxHeartbeats 4000000 in
set_option maxRecDepth 100000 in
theorem tX8_take {l : Launch} {D : va_G} {cI cT cM : ClassId} {ad : Nat → Nat} (hD : gInj 167 ad) {F : Nat} {σ : Sig} {x1 : Int32} {res : Int32 × Sig} (hf : fX8_take F σ x1 = some res) : CTi l yX8_take cX8_take 4 .int rX8_take D (cTy cI cT cM) (gA 167 ad) [.ref (ad 160), .int x1] (cw cI cT cM ad σ) res.1 (cw cI cT cM ad res.2) := by
  refine ct_int (by decide) (Nat.le_of_ble_eq_true rfl) ?_
  intro p e s m args below meth c Q ls hx hb hml hown ht hX hret hP hS hl
  have hl : lv_has ls 4 [(0, .ref (ad 160)), (1, .int x1)] := hl
  unfold fX8_take at hf
  refine lv_iload_n hx hb dX8_take_0 rfl (lv_at hl 1 rfl) ?_
  obtain ⟨q1, hq1, hf⟩ := obE hf
  refine ct_cSi (rest := []) (tX8_isKey hD hq1) hx hb hml hown ht hX hP hS wX8_isKey kML_RX8_153 rfl rfl ⟨Nat.le_of_ble_eq_true rfl, Nat.le_of_ble_eq_true rfl⟩ rfl hl.1 rfl (Nat.le_of_ble_eq_true rfl) dX8_take_1 (fun H locs hP hS => ?_)
  refine lv_if_ne (tgt := 10) hx hb dX8_take_4 (by decide) (fun hc2 => ?_) (fun hc2 => ?_)
  · rw [if_neg hc2] at hf
    refine lv_aload_n hx hb dX8_take_10 rfl (lv_at hl 0 rfl) ?_
    refine va_get (ci := 6) (v := .ref (ad (10 * 0))) hx hb ht i_X8 hown hX.1 hP 160 cw_ri rfl 0 (by decide) (ht _ kFL_RX8_10) (fun _ h9 => h9) rfl dX8_take_11 ?_
    refine va_get (ci := 5) (v := .ref (ad (10 * 0 + 1))) hx hb ht i_X7 hown hX.1 hP (10 * 0) (cw_tree (i := 0) (by decide)) rfl 0 (by decide) (ht _ kFL_RX8_40) (fun _ h9 => h9) rfl dX8_take_14 ?_
    refine lv_iload_n hx hb dX8_take_17 rfl (lv_at hl 1 rfl) ?_
    obtain ⟨q3, hq3, hf⟩ := obE hf
    refine ct_cVi (rest := []) (tX4_slotOfKey hD (by decide) hq3) hx hb hml hown ht hX (P_u3 0 hP) hS wX4_slotOfKey kML_RX8_138 rfl rfl ⟨Nat.le_of_ble_eq_true rfl, Nat.le_of_ble_eq_true rfl⟩ (va_recv hX.1 hP rfl (cw_nodes (i := 0) (by decide))) rfl hl.1 rfl (Nat.le_of_ble_eq_true rfl) dX8_take_18 (fun H locs hP hS => ?_)
    rw [u3_self] at hP
    refine lv_istore_n (lv' := [(2, .int q3), (0, .ref (ad 160)), (1, .int x1)]) hx hb dX8_take_21 rfl hl (by decide) rfl (fun ls hl => ?_)
    refine lv_iload_n hx hb dX8_take_22 rfl (lv_at hl 0 rfl) ?_
    refine lv_iconst (v := (-1 : Int32)) hx hb dX8_take_23 (by decide) ?_
    refine lv_icmp_ne (tgt := 30) hx hb dX8_take_24 (by decide) (fun hc4 => ?_) (fun hc4 => ?_)
    · rw [if_neg hc4] at hf
      refine lv_aload_n hx hb dX8_take_30 rfl (lv_at hl 1 rfl) ?_
      refine va_get (ci := 6) (v := .ref (ad (10 * 0))) hx hb ht i_X8 hown hX.1 hP 160 cw_ri rfl 0 (by decide) (ht _ kFL_RX8_10) (fun _ h9 => h9) rfl dX8_take_31 ?_
      refine va_get (ci := 5) (v := .ref (ad (10 * 0 + 1))) hx hb ht i_X7 hown hX.1 hP (10 * 0) (cw_tree (i := 0) (by decide)) rfl 0 (by decide) (ht _ kFL_RX8_40) (fun _ h9 => h9) rfl dX8_take_34 ?_
      refine lv_iload_n hx hb dX8_take_37 rfl (lv_at hl 0 rfl) ?_
      obtain ⟨q5, hq5, hf⟩ := obE hf
      refine ct_cVi (rest := []) (tX4_worthOf hD (by decide) hq5) hx hb hml hown ht hX (P_u3 0 hP) hS wX4_worthOf kML_RX8_141 rfl rfl ⟨Nat.le_of_ble_eq_true rfl, Nat.le_of_ble_eq_true rfl⟩ (va_recv hX.1 hP rfl (cw_nodes (i := 0) (by decide))) rfl hl.1 rfl (Nat.le_of_ble_eq_true rfl) dX8_take_38 (fun H locs hP hS => ?_)
      rw [u3_self] at hP
      refine lv_istore_n (lv' := [(3, .int q5), (2, .int q3), (0, .ref (ad 160)), (1, .int x1)]) hx hb dX8_take_41 rfl hl (by decide) rfl (fun ls hl => ?_)
      refine lv_aload_n hx hb dX8_take_42 rfl (lv_at hl 2 rfl) ?_
      refine va_get (ci := 6) (v := .ref (ad 161)) hx hb ht i_X8 hown hX.1 hP 160 cw_ri rfl 2 (by decide) (ht _ kFL_RX8_22) (fun _ h9 => h9) rfl dX8_take_43 ?_
      refine lv_aload_n hx hb dX8_take_46 rfl (lv_at hl 2 rfl) ?_
      refine va_get (ci := 6) (v := .ref (ad (10 * 0))) hx hb ht i_X8 hown hX.1 hP 160 cw_ri rfl 0 (by decide) (ht _ kFL_RX8_10) (fun _ h9 => h9) rfl dX8_take_47 ?_
      obtain ⟨q6, hq6, hf⟩ := obE hf
      refine ct_cVv (rest := []) (tX5_remember hD hq6) hx hb hml hown ht hX hP hS wX5_remember kML_RX8_169 rfl rfl ⟨Nat.le_of_ble_eq_true rfl, Nat.le_of_ble_eq_true rfl⟩ (va_recv hX.1 hP rfl cw_past) rfl hl.1 rfl (Nat.le_of_ble_eq_true rfl) dX8_take_50 (fun H locs hP hS => ?_)
      refine lv_aload_n hx hb dX8_take_53 rfl (lv_at hl 2 rfl) ?_
      refine va_get (ci := 6) (v := .ref (ad (10 * 0))) hx hb ht i_X8 hown hX.1 hP 160 cw_ri rfl 0 (by decide) (ht _ kFL_RX8_10) (fun _ h9 => h9) rfl dX8_take_54 ?_
      refine lv_iload_n hx hb dX8_take_57 rfl (lv_at hl 1 rfl) ?_
      obtain ⟨q7, hq7, hf⟩ := obE hf
      refine ct_cVv (rest := []) (tX7_remove hD (by decide) hq7) hx hb hml hown ht hX (P_u3 0 hP) hS wX7_remove kML_RX8_177 rfl rfl ⟨Nat.le_of_ble_eq_true rfl, Nat.le_of_ble_eq_true rfl⟩ (va_recv hX.1 hP rfl (cw_tree (i := 0) (by decide))) rfl hl.1 rfl (Nat.le_of_ble_eq_true rfl) dX8_take_58 (fun H locs hP hS => ?_)
      refine lv_iload_n hx hb dX8_take_61 rfl (lv_at hl 0 rfl) ?_
      have e0 := Option.some.inj hf
      subst e0
      exact hret _ _ _ _ hP hS dX8_take_62
    · rw [if_pos hc4] at hf
      refine lv_ldc hx hb hown (ht _ kKI_RX8_163) dX8_take_27 ?_
      have e0 := Option.some.inj hf
      subst e0
      exact hret _ _ _ _ hP hS dX8_take_29
  · rw [if_pos hc2] at hf
    refine lv_ldc hx hb hown (ht _ kKI_RX8_110) dX8_take_7 ?_
    have e0 := Option.some.inj hf
    subst e0
    exact hret _ _ _ _ hP hS dX8_take_9
def fX8_worth (F : Nat) (σ : Sig) (x1 : Int32) (x2 : Int32) : Option (Int32 × Sig) := (fX4_slotOfKey F (σ 0) x1).bind fun q1 => (if q1 = (-1 : Int32) then (some ((-1000000001 : Int32), σ)) else ((fX8_isWorth F x2).bind fun q3 => (if q3 = 0 then (some ((-1000000002 : Int32), σ)) else ((fX4_worthOf F (σ 0) q1).bind fun q5 => ((fX5_remember F σ).bind fun q6 => ((fX4_setWorth F (q6 0) q1 x2).bind fun q7 => (some (q5, u3 q6 0 q7))))))))
abbrev rX8_worth : Room := { frames := 4, cells := 0, slots := 0, locals := 123 }
theorem wX8_worth : kV yX8_worth cX8_worth 5 (some .int) 2 := ⟨kCO_yX8_worth, kIM_yX8_worth, kSE_yX8_worth, kIN_RX8, by decide +kernel, by decide +kernel, by decide +kernel⟩
set_option maxHeartbeats 4000000 in
set_option maxRecDepth 100000 in
theorem tX8_worth {l : Launch} {D : va_G} {cI cT cM : ClassId} {ad : Nat → Nat} (hD : gInj 167 ad) {F : Nat} {σ : Sig} {x1 : Int32} {x2 : Int32} {res : Int32 × Sig} (hf : fX8_worth F σ x1 x2 = some res) : CTi l yX8_worth cX8_worth 5 .int rX8_worth D (cTy cI cT cM) (gA 167 ad) [.ref (ad 160), .int x1, .int x2] (cw cI cT cM ad σ) res.1 (cw cI cT cM ad res.2) := by
  refine ct_int (by decide) (Nat.le_of_ble_eq_true rfl) ?_
  intro p e s m args below meth c Q ls hx hb hml hown ht hX hret hP hS hl
  have hl : lv_has ls 5 [(0, .ref (ad 160)), (1, .int x1), (2, .int x2)] := hl
  unfold fX8_worth at hf
  refine lv_aload_n hx hb dX8_worth_0 rfl (lv_at hl 0 rfl) ?_
  refine va_get (ci := 6) (v := .ref (ad (10 * 0))) hx hb ht i_X8 hown hX.1 hP 160 cw_ri rfl 0 (by decide) (ht _ kFL_RX8_10) (fun _ h9 => h9) rfl dX8_worth_1 ?_
  refine va_get (ci := 5) (v := .ref (ad (10 * 0 + 1))) hx hb ht i_X7 hown hX.1 hP (10 * 0) (cw_tree (i := 0) (by decide)) rfl 0 (by decide) (ht _ kFL_RX8_40) (fun _ h9 => h9) rfl dX8_worth_4 ?_
  refine lv_iload_n hx hb dX8_worth_7 rfl (lv_at hl 1 rfl) ?_
  obtain ⟨q1, hq1, hf⟩ := obE hf
  refine ct_cVi (rest := []) (tX4_slotOfKey hD (by decide) hq1) hx hb hml hown ht hX (P_u3 0 hP) hS wX4_slotOfKey kML_RX8_138 rfl rfl ⟨Nat.le_of_ble_eq_true rfl, Nat.le_of_ble_eq_true rfl⟩ (va_recv hX.1 hP rfl (cw_nodes (i := 0) (by decide))) rfl hl.1 rfl (Nat.le_of_ble_eq_true rfl) dX8_worth_8 (fun H locs hP hS => ?_)
  rw [u3_self] at hP
  refine lv_istore_n (lv' := [(3, .int q1), (0, .ref (ad 160)), (1, .int x1), (2, .int x2)]) hx hb dX8_worth_11 rfl hl (by decide) rfl (fun ls hl => ?_)
  refine lv_iload_n hx hb dX8_worth_12 rfl (lv_at hl 0 rfl) ?_
  refine lv_iconst (v := (-1 : Int32)) hx hb dX8_worth_13 (by decide) ?_
  refine lv_icmp_ne (tgt := 20) hx hb dX8_worth_14 (by decide) (fun hc2 => ?_) (fun hc2 => ?_)
  · rw [if_neg hc2] at hf
    refine lv_iload_n hx hb dX8_worth_20 rfl (lv_at hl 3 rfl) ?_
    obtain ⟨q3, hq3, hf⟩ := obE hf
    refine ct_cSi (rest := []) (tX8_isWorth hD hq3) hx hb hml hown ht hX hP hS wX8_isWorth kML_RX8_157 rfl rfl ⟨Nat.le_of_ble_eq_true rfl, Nat.le_of_ble_eq_true rfl⟩ rfl hl.1 rfl (Nat.le_of_ble_eq_true rfl) dX8_worth_21 (fun H locs hP hS => ?_)
    refine lv_if_ne (tgt := 30) hx hb dX8_worth_24 (by decide) (fun hc4 => ?_) (fun hc4 => ?_)
    · rw [if_neg hc4] at hf
      refine lv_aload_n hx hb dX8_worth_30 rfl (lv_at hl 1 rfl) ?_
      refine va_get (ci := 6) (v := .ref (ad (10 * 0))) hx hb ht i_X8 hown hX.1 hP 160 cw_ri rfl 0 (by decide) (ht _ kFL_RX8_10) (fun _ h9 => h9) rfl dX8_worth_31 ?_
      refine va_get (ci := 5) (v := .ref (ad (10 * 0 + 1))) hx hb ht i_X7 hown hX.1 hP (10 * 0) (cw_tree (i := 0) (by decide)) rfl 0 (by decide) (ht _ kFL_RX8_40) (fun _ h9 => h9) rfl dX8_worth_34 ?_
      refine lv_iload_n hx hb dX8_worth_37 rfl (lv_at hl 0 rfl) ?_
      obtain ⟨q5, hq5, hf⟩ := obE hf
      refine ct_cVi (rest := []) (tX4_worthOf hD (by decide) hq5) hx hb hml hown ht hX (P_u3 0 hP) hS wX4_worthOf kML_RX8_141 rfl rfl ⟨Nat.le_of_ble_eq_true rfl, Nat.le_of_ble_eq_true rfl⟩ (va_recv hX.1 hP rfl (cw_nodes (i := 0) (by decide))) rfl hl.1 rfl (Nat.le_of_ble_eq_true rfl) dX8_worth_38 (fun H locs hP hS => ?_)
      rw [u3_self] at hP
      refine lv_istore (lv' := [(4, .int q5), (3, .int q1), (0, .ref (ad 160)), (1, .int x1), (2, .int x2)]) hx hb dX8_worth_41 hl (by decide) rfl (fun ls hl => ?_)
      refine lv_aload_n hx hb dX8_worth_43 rfl (lv_at hl 2 rfl) ?_
      refine va_get (ci := 6) (v := .ref (ad 161)) hx hb ht i_X8 hown hX.1 hP 160 cw_ri rfl 2 (by decide) (ht _ kFL_RX8_22) (fun _ h9 => h9) rfl dX8_worth_44 ?_
      refine lv_aload_n hx hb dX8_worth_47 rfl (lv_at hl 2 rfl) ?_
      refine va_get (ci := 6) (v := .ref (ad (10 * 0))) hx hb ht i_X8 hown hX.1 hP 160 cw_ri rfl 0 (by decide) (ht _ kFL_RX8_10) (fun _ h9 => h9) rfl dX8_worth_48 ?_
      obtain ⟨q6, hq6, hf⟩ := obE hf
      refine ct_cVv (rest := []) (tX5_remember hD hq6) hx hb hml hown ht hX hP hS wX5_remember kML_RX8_169 rfl rfl ⟨Nat.le_of_ble_eq_true rfl, Nat.le_of_ble_eq_true rfl⟩ (va_recv hX.1 hP rfl cw_past) rfl hl.1 rfl (Nat.le_of_ble_eq_true rfl) dX8_worth_51 (fun H locs hP hS => ?_)
      refine lv_aload_n hx hb dX8_worth_54 rfl (lv_at hl 2 rfl) ?_
      refine va_get (ci := 6) (v := .ref (ad (10 * 0))) hx hb ht i_X8 hown hX.1 hP 160 cw_ri rfl 0 (by decide) (ht _ kFL_RX8_10) (fun _ h9 => h9) rfl dX8_worth_55 ?_
      refine va_get (ci := 5) (v := .ref (ad (10 * 0 + 1))) hx hb ht i_X7 hown hX.1 hP (10 * 0) (cw_tree (i := 0) (by decide)) rfl 0 (by decide) (ht _ kFL_RX8_40) (fun _ h9 => h9) rfl dX8_worth_58 ?_
      refine lv_iload_n hx hb dX8_worth_61 rfl (lv_at hl 1 rfl) ?_
      refine lv_iload_n hx hb dX8_worth_62 rfl (lv_at hl 4 rfl) ?_
      obtain ⟨q7, hq7, hf⟩ := obE hf
      refine ct_cVv (rest := []) (tX4_setWorth hD (by decide) hq7) hx hb hml hown ht hX (P_u3 0 hP) hS wX4_setWorth kML_RX8_181 rfl rfl ⟨Nat.le_of_ble_eq_true rfl, Nat.le_of_ble_eq_true rfl⟩ (va_recv hX.1 hP rfl (cw_nodes (i := 0) (by decide))) rfl hl.1 rfl (Nat.le_of_ble_eq_true rfl) dX8_worth_63 (fun H locs hP hS => ?_)
      refine lv_iload hx hb dX8_worth_66 (lv_at hl 0 rfl) ?_
      have e0 := Option.some.inj hf
      subst e0
      exact hret _ _ _ _ hP hS dX8_worth_68
    · rw [if_pos hc4] at hf
      refine lv_ldc hx hb hown (ht _ kKI_RX8_110) dX8_worth_27 ?_
      have e0 := Option.some.inj hf
      subst e0
      exact hret _ _ _ _ hP hS dX8_worth_29
  · rw [if_pos hc2] at hf
    refine lv_ldc hx hb hown (ht _ kKI_RX8_114) dX8_worth_17 ?_
    have e0 := Option.some.inj hf
    subst e0
    exact hret _ _ _ _ hP hS dX8_worth_19
def fX8_cut_38 (F : Nat) : Nat → Sig → Int32 → Int32 → Option (Int32 × Sig)
  | 0, _, _, _ => none
  | n + 1, σ, x2, x3 => if x2 ≤ x3 then (some (x2, σ)) else ((fX4_leastBelow F (σ 0) (σ 0 6 0)).bind fun q6 => ((fX7_remove F (σ 0) q6).bind fun q7 => (fX8_cut_38 F n (u3 σ 0 q7) x2 (x3 + (1 : Int32)))))
def fX8_cut (F : Nat) (σ : Sig) (x1 : Int32) : Option (Int32 × Sig) := (fX8_isWithin F x1 (0 : Int32) (100000 : Int32)).bind fun q1 => (if q1 = 0 then (some ((-1000000002 : Int32), σ)) else ((fX5_remember F σ).bind fun q3 => ((fX6_howManyLess F (q3 0) x1).bind fun q4 => (fX8_cut_38 F F q3 q4 (0 : Int32)))))
abbrev rX8_cut : Room := { frames := 5, cells := 0, slots := 0, locals := 123 }
theorem wX8_cut : kV yX8_cut cX8_cut 4 (some .int) 1 := ⟨kCO_yX8_cut, kIM_yX8_cut, kSE_yX8_cut, kIN_RX8, by decide +kernel, by decide +kernel, by decide +kernel⟩
set_option maxHeartbeats 4000000 in
set_option maxRecDepth 100000 in
theorem tX8_cut {l : Launch} {D : va_G} {cI cT cM : ClassId} {ad : Nat → Nat} (hD : gInj 167 ad) {F : Nat} {σ : Sig} {x1 : Int32} {res : Int32 × Sig} (hf : fX8_cut F σ x1 = some res) : CTi l yX8_cut cX8_cut 4 .int rX8_cut D (cTy cI cT cM) (gA 167 ad) [.ref (ad 160), .int x1] (cw cI cT cM ad σ) res.1 (cw cI cT cM ad res.2) := by
  refine ct_int (by decide) (Nat.le_of_ble_eq_true rfl) ?_
  intro p e s m args below meth c Q ls hx hb hml hown ht hX hret hP hS hl
  have hl : lv_has ls 4 [(0, .ref (ad 160)), (1, .int x1)] := hl
  have blk38 : ∀ (n38 : Nat) (H : Heap) (locs : List Loc) (σ : Sig) (x2 : Int32) (x3 : Int32) (ls : Array Slot), va_P D vwCl (cw cI cT cM ad σ) H → va_S (gA 167 ad) s.heap H locs → lv_has ls 4 [(0, .ref (ad 160)), (2, .int x2), (3, .int x3)] → fX8_cut_38 F n38 σ x2 x3 = some res → W p l e rX8_cut s m args below meth c H locs 0 0 Q (F0 m 38 ls []) := by
    intro n38
    induction n38 with
    | zero =>
      intro H locs σ x2 x3 ls hP hS hl hf
      rw [fX8_cut_38] at hf
      cases hf
    | succ n38 ih38 =>
      skip
      intro H locs σ x2 x3 ls hP hS hl hf
      rw [fX8_cut_38] at hf
      refine lv_iload_n hx hb dX8_cut_38 rfl (lv_at hl 2 rfl) ?_
      refine lv_iload_n hx hb dX8_cut_39 rfl (lv_at hl 1 rfl) ?_
      refine lv_icmp_ge (tgt := 76) hx hb dX8_cut_40 (by decide) (fun hc5 => ?_) (fun hc5 => ?_)
      · rw [if_pos hc5] at hf
        refine lv_iload_n hx hb dX8_cut_76 rfl (lv_at hl 1 rfl) ?_
        have e0 := Option.some.inj hf
        subst e0
        exact hret _ _ _ _ hP hS dX8_cut_77
      · rw [if_neg hc5] at hf
        refine lv_aload_n hx hb dX8_cut_43 rfl (lv_at hl 0 rfl) ?_
        refine va_get (ci := 6) (v := .ref (ad (10 * 0))) hx hb ht i_X8 hown hX.1 hP 160 cw_ri rfl 0 (by decide) (ht _ kFL_RX8_10) (fun _ h9 => h9) rfl dX8_cut_44 ?_
        refine lv_aload_n hx hb dX8_cut_47 rfl (lv_at hl 0 rfl) ?_
        refine va_get (ci := 6) (v := .ref (ad (10 * 0))) hx hb ht i_X8 hown hX.1 hP 160 cw_ri rfl 0 (by decide) (ht _ kFL_RX8_10) (fun _ h9 => h9) rfl dX8_cut_48 ?_
        refine va_get (ci := 5) (v := .ref (ad (10 * 0 + 1))) hx hb ht i_X7 hown hX.1 hP (10 * 0) (cw_tree (i := 0) (by decide)) rfl 0 (by decide) (ht _ kFL_RX8_40) (fun _ h9 => h9) rfl dX8_cut_51 ?_
        refine lv_aload_n hx hb dX8_cut_54 rfl (lv_at hl 0 rfl) ?_
        refine va_get (ci := 6) (v := .ref (ad (10 * 0))) hx hb ht i_X8 hown hX.1 hP 160 cw_ri rfl 0 (by decide) (ht _ kFL_RX8_10) (fun _ h9 => h9) rfl dX8_cut_55 ?_
        refine va_get (ci := 5) (v := .ref (ad (10 * 0 + 1))) hx hb ht i_X7 hown hX.1 hP (10 * 0) (cw_tree (i := 0) (by decide)) rfl 0 (by decide) (ht _ kFL_RX8_40) (fun _ h9 => h9) rfl dX8_cut_58 ?_
        refine va_get (ci := 3) (v := .int (σ 0 6 0)) hx hb ht i_X4 hown hX.1 hP (10 * 0 + 1) (cw_nodes (i := 0) (by decide)) rfl 6 (by decide) (ht _ kFL_RX8_50) (fun _ h9 => h9) rfl dX8_cut_61 ?_
        obtain ⟨q6, hq6, hf⟩ := obE hf
        refine ct_cVi (rest := [.ref (ad (10 * 0))]) (tX4_leastBelow hD (by decide) hq6) hx hb hml hown ht hX (P_u3 0 hP) hS wX4_leastBelow kML_RX8_147 rfl rfl ⟨Nat.le_of_ble_eq_true rfl, Nat.le_of_ble_eq_true rfl⟩ (va_recv hX.1 hP rfl (cw_nodes (i := 0) (by decide))) rfl hl.1 rfl (Nat.le_of_ble_eq_true rfl) dX8_cut_64 (fun H locs hP hS => ?_)
        rw [u3_self] at hP
        obtain ⟨q7, hq7, hf⟩ := obE hf
        refine ct_cVv (rest := []) (tX7_remove hD (by decide) hq7) hx hb hml hown ht hX (P_u3 0 hP) hS wX7_remove kML_RX8_177 rfl rfl ⟨Nat.le_of_ble_eq_true rfl, Nat.le_of_ble_eq_true rfl⟩ (va_recv hX.1 hP rfl (cw_tree (i := 0) (by decide))) rfl hl.1 rfl (Nat.le_of_ble_eq_true rfl) dX8_cut_67 (fun H locs hP hS => ?_)
        refine lv_iinc (v := x3 + (1 : Int32)) (lv' := [(3, .int (x3 + (1 : Int32))), (0, .ref (ad 160)), (2, .int x2)]) hx hb dX8_cut_70 hl (k := 2) rfl rfl (by decide) rfl (fun ls hl => ?_)
        refine lv_goto (tgt := 38) hx hb dX8_cut_73 (by decide) ?_
        exact ih38 _ _ (u3 σ 0 q7) x2 (x3 + (1 : Int32)) ls hP hS (lv_sub hl [1, 2, 0] rfl) hf
  unfold fX8_cut at hf
  refine lv_iload_n hx hb dX8_cut_0 rfl (lv_at hl 1 rfl) ?_
  refine lv_iconst (v := (0 : Int32)) hx hb dX8_cut_1 (by decide) ?_
  refine lv_ldc hx hb hown (ht _ kKI_RX8_184) dX8_cut_2 ?_
  obtain ⟨q1, hq1, hf⟩ := obE hf
  refine ct_cSi (rest := []) (tX8_isWithin hD hq1) hx hb hml hown ht hX hP hS wX8_isWithin kML_RX8_185 rfl rfl ⟨Nat.le_of_ble_eq_true rfl, Nat.le_of_ble_eq_true rfl⟩ rfl hl.1 rfl (Nat.le_of_ble_eq_true rfl) dX8_cut_4 (fun H locs hP hS => ?_)
  refine lv_if_ne (tgt := 13) hx hb dX8_cut_7 (by decide) (fun hc2 => ?_) (fun hc2 => ?_)
  · rw [if_neg hc2] at hf
    refine lv_aload_n hx hb dX8_cut_13 rfl (lv_at hl 0 rfl) ?_
    refine va_get (ci := 6) (v := .ref (ad 161)) hx hb ht i_X8 hown hX.1 hP 160 cw_ri rfl 2 (by decide) (ht _ kFL_RX8_22) (fun _ h9 => h9) rfl dX8_cut_14 ?_
    refine lv_aload_n hx hb dX8_cut_17 rfl (lv_at hl 0 rfl) ?_
    refine va_get (ci := 6) (v := .ref (ad (10 * 0))) hx hb ht i_X8 hown hX.1 hP 160 cw_ri rfl 0 (by decide) (ht _ kFL_RX8_10) (fun _ h9 => h9) rfl dX8_cut_18 ?_
    obtain ⟨q3, hq3, hf⟩ := obE hf
    refine ct_cVv (rest := []) (tX5_remember hD hq3) hx hb hml hown ht hX hP hS wX5_remember kML_RX8_169 rfl rfl ⟨Nat.le_of_ble_eq_true rfl, Nat.le_of_ble_eq_true rfl⟩ (va_recv hX.1 hP rfl cw_past) rfl hl.1 rfl (Nat.le_of_ble_eq_true rfl) dX8_cut_21 (fun H locs hP hS => ?_)
    refine lv_aload_n hx hb dX8_cut_24 rfl (lv_at hl 0 rfl) ?_
    refine va_get (ci := 6) (v := .ref (ad (10 * 0))) hx hb ht i_X8 hown hX.1 hP 160 cw_ri rfl 0 (by decide) (ht _ kFL_RX8_10) (fun _ h9 => h9) rfl dX8_cut_25 ?_
    refine va_get (ci := 5) (v := .ref (ad (10 * 0 + 1))) hx hb ht i_X7 hown hX.1 hP (10 * 0) (cw_tree (i := 0) (by decide)) rfl 0 (by decide) (ht _ kFL_RX8_40) (fun _ h9 => h9) rfl dX8_cut_28 ?_
    refine lv_iload_n hx hb dX8_cut_31 rfl (lv_at hl 1 rfl) ?_
    obtain ⟨q4, hq4, hf⟩ := obE hf
    refine ct_cSi (rest := []) (tX6_howManyLess hD (by decide) hq4) hx hb hml hown ht hX (P_u3 0 hP) hS wX6_howManyLess kML_RX8_144 rfl rfl ⟨Nat.le_of_ble_eq_true rfl, Nat.le_of_ble_eq_true rfl⟩ rfl hl.1 rfl (Nat.le_of_ble_eq_true rfl) dX8_cut_32 (fun H locs hP hS => ?_)
    rw [u3_self] at hP
    refine lv_istore_n (lv' := [(2, .int q4), (0, .ref (ad 160)), (1, .int x1)]) hx hb dX8_cut_35 rfl hl (by decide) rfl (fun ls hl => ?_)
    refine lv_iconst (v := (0 : Int32)) hx hb dX8_cut_36 (by decide) ?_
    refine lv_istore_n (lv' := [(3, .int ((0 : Int32))), (2, .int q4), (0, .ref (ad 160)), (1, .int x1)]) hx hb dX8_cut_37 rfl hl (by decide) rfl (fun ls hl => ?_)
    exact blk38 F _ _ q3 q4 (0 : Int32) ls hP hS (lv_sub hl [2, 1, 0] rfl) hf
  · rw [if_pos hc2] at hf
    refine lv_ldc hx hb hown (ht _ kKI_RX8_110) dX8_cut_10 ?_
    have e0 := Option.some.inj hf
    subst e0
    exact hret _ _ _ _ hP hS dX8_cut_12
def fX8_addIfItCan (F : Nat) (σ : Sig) (x1 : Int32) (x2 : Int32) : Option (Sig) := (fX8_isKey F x1).bind fun q1 => (if q1 = 0 then (some σ) else ((fX8_isThere F σ x1).bind fun q3 => (if q3 = 0 then ((fX8_hasRoom F σ).bind fun q5 => (if q5 = 0 then (some σ) else ((fX7_add F (σ 0) x1 x2).bind fun q7 => (some (u3 σ 0 q7))))) else (some σ))))
abbrev rX8_addIfItCan : Room := { frames := 5, cells := 0, slots := 0, locals := 119 }
theorem wX8_addIfItCan : kV yX8_addIfItCan cX8_addIfItCan 3 none 2 := ⟨kCO_yX8_addIfItCan, kIM_yX8_addIfItCan, kSE_yX8_addIfItCan, kIN_RX8, by decide +kernel, by decide +kernel, by decide +kernel⟩
set_option maxHeartbeats 4000000 in
set_option maxRecDepth 100000 in
theorem tX8_addIfItCan {l : Launch} {D : va_G} {cI cT cM : ClassId} {ad : Nat → Nat} (hD : gInj 167 ad) {F : Nat} {σ : Sig} {x1 : Int32} {x2 : Int32} {res : Sig} (hf : fX8_addIfItCan F σ x1 x2 = some res) : CTv l yX8_addIfItCan cX8_addIfItCan 3 rX8_addIfItCan D (cTy cI cT cM) (gA 167 ad) [.ref (ad 160), .int x1, .int x2] (cw cI cT cM ad σ) (cw cI cT cM ad res) := by
  refine ct_void (by decide) (Nat.le_of_ble_eq_true rfl) ?_
  intro p e s m args below meth c Q ls hx hb hml hown ht hX hret hP hS hl
  have hl : lv_has ls 3 [(0, .ref (ad 160)), (1, .int x1), (2, .int x2)] := hl
  unfold fX8_addIfItCan at hf
  refine lv_iload_n hx hb dX8_addIfItCan_0 rfl (lv_at hl 1 rfl) ?_
  obtain ⟨q1, hq1, hf⟩ := obE hf
  refine ct_cSi (rest := []) (tX8_isKey hD hq1) hx hb hml hown ht hX hP hS wX8_isKey kML_RX8_153 rfl rfl ⟨Nat.le_of_ble_eq_true rfl, Nat.le_of_ble_eq_true rfl⟩ rfl hl.1 rfl (Nat.le_of_ble_eq_true rfl) dX8_addIfItCan_1 (fun H locs hP hS => ?_)
  refine lv_if_eq (tgt := 31) hx hb dX8_addIfItCan_4 (by decide) (fun hc2 => ?_) (fun hc2 => ?_)
  · rw [if_pos hc2] at hf
    have e0 := Option.some.inj hf
    subst e0
    exact hret _ _ _ _ hP hS dX8_addIfItCan_31
  · rw [if_neg hc2] at hf
    refine lv_aload_n hx hb dX8_addIfItCan_7 rfl (lv_at hl 0 rfl) ?_
    refine lv_iload_n hx hb dX8_addIfItCan_8 rfl (lv_at hl 1 rfl) ?_
    obtain ⟨q3, hq3, hf⟩ := obE hf
    refine ct_cVi (rest := []) (tX8_isThere hD hq3) hx hb hml hown ht hX hP hS wX8_isThere kML_RX8_160 rfl rfl ⟨Nat.le_of_ble_eq_true rfl, Nat.le_of_ble_eq_true rfl⟩ (va_recv hX.1 hP rfl cw_ri) rfl hl.1 rfl (Nat.le_of_ble_eq_true rfl) dX8_addIfItCan_9 (fun H locs hP hS => ?_)
    refine lv_if_ne (tgt := 31) hx hb dX8_addIfItCan_12 (by decide) (fun hc4 => ?_) (fun hc4 => ?_)
    · rw [if_neg hc4] at hf
      have e0 := Option.some.inj hf
      subst e0
      exact hret _ _ _ _ hP hS dX8_addIfItCan_31
    · rw [if_pos hc4] at hf
      refine lv_aload_n hx hb dX8_addIfItCan_15 rfl (lv_at hl 0 rfl) ?_
      obtain ⟨q5, hq5, hf⟩ := obE hf
      refine ct_cVi (rest := []) (tX8_hasRoom hD hq5) hx hb hml hown ht hX hP hS wX8_hasRoom kML_RX8_164 rfl rfl ⟨Nat.le_of_ble_eq_true rfl, Nat.le_of_ble_eq_true rfl⟩ (va_recv hX.1 hP rfl cw_ri) rfl hl.1 rfl (Nat.le_of_ble_eq_true rfl) dX8_addIfItCan_16 (fun H locs hP hS => ?_)
      refine lv_if_eq (tgt := 31) hx hb dX8_addIfItCan_19 (by decide) (fun hc6 => ?_) (fun hc6 => ?_)
      · rw [if_pos hc6] at hf
        have e0 := Option.some.inj hf
        subst e0
        exact hret _ _ _ _ hP hS dX8_addIfItCan_31
      · rw [if_neg hc6] at hf
        refine lv_aload_n hx hb dX8_addIfItCan_22 rfl (lv_at hl 0 rfl) ?_
        refine va_get (ci := 6) (v := .ref (ad (10 * 0))) hx hb ht i_X8 hown hX.1 hP 160 cw_ri rfl 0 (by decide) (ht _ kFL_RX8_10) (fun _ h9 => h9) rfl dX8_addIfItCan_23 ?_
        refine lv_iload_n hx hb dX8_addIfItCan_26 rfl (lv_at hl 1 rfl) ?_
        refine lv_iload_n hx hb dX8_addIfItCan_27 rfl (lv_at hl 2 rfl) ?_
        obtain ⟨q7, hq7, hf⟩ := obE hf
        refine ct_cVv (rest := []) (tX7_add hD (by decide) hq7) hx hb hml hown ht hX (P_u3 0 hP) hS wX7_add kML_RX8_173 rfl rfl ⟨Nat.le_of_ble_eq_true rfl, Nat.le_of_ble_eq_true rfl⟩ (va_recv hX.1 hP rfl (cw_tree (i := 0) (by decide))) rfl hl.1 rfl (Nat.le_of_ble_eq_true rfl) dX8_addIfItCan_28 (fun H locs hP hS => ?_)
        have e0 := Option.some.inj hf
        subst e0
        exact hret _ _ _ _ hP hS dX8_addIfItCan_31
def fX8_batch_57 (F : Nat) : Nat → Sig → Int32 → Int32 → Int32 → Int32 → Int32 → Option (Int32 × Sig)
  | 0, _, _, _, _, _, _ => none
  | n + 1, σ, x1, x2, x3, x4, x5 => if x1 ≤ x5 then (some ((σ 0 6 1) - x4, σ)) else ((fX8_addIfItCan F σ (x2 + (x5 * x3)) (1 : Int32)).bind fun q9 => (fX8_batch_57 F n q9 x1 x2 x3 x4 (x5 + (1 : Int32))))
def fX8_batch (F : Nat) (σ : Sig) (x1 : Int32) (x2 : Int32) (x3 : Int32) : Option (Int32 × Sig) := (fX8_isWithin F x1 (1 : Int32) (30 : Int32)).bind fun q1 => (if q1 = 0 then (some ((-1000000002 : Int32), σ)) else ((fX8_isKey F x2).bind fun q3 => (if q3 = 0 then (some ((-1000000002 : Int32), σ)) else ((fX8_isWithin F x3 (1 : Int32) (9999 : Int32)).bind fun q5 => (if q5 = 0 then (some ((-1000000002 : Int32), σ)) else ((fX5_remember F σ).bind fun q7 => (fX8_batch_57 F F q7 x1 x2 x3 (q7 0 6 1) (0 : Int32))))))))
abbrev rX8_batch : Room := { frames := 6, cells := 0, slots := 0, locals := 141 }
theorem wX8_batch : kV yX8_batch cX8_batch 6 (some .int) 3 := ⟨kCO_yX8_batch, kIM_yX8_batch, kSE_yX8_batch, kIN_RX8, by decide +kernel, by decide +kernel, by decide +kernel⟩
set_option maxHeartbeats 4000000 in
set_option maxRecDepth 100000 in
theorem tX8_batch {l : Launch} {D : va_G} {cI cT cM : ClassId} {ad : Nat → Nat} (hD : gInj 167 ad) {F : Nat} {σ : Sig} {x1 : Int32} {x2 : Int32} {x3 : Int32} {res : Int32 × Sig} (hf : fX8_batch F σ x1 x2 x3 = some res) : CTi l yX8_batch cX8_batch 6 .int rX8_batch D (cTy cI cT cM) (gA 167 ad) [.ref (ad 160), .int x1, .int x2, .int x3] (cw cI cT cM ad σ) res.1 (cw cI cT cM ad res.2) := by
  refine ct_int (by decide) (Nat.le_of_ble_eq_true rfl) ?_
  intro p e s m args below meth c Q ls hx hb hml hown ht hX hret hP hS hl
  have hl : lv_has ls 6 [(0, .ref (ad 160)), (1, .int x1), (2, .int x2), (3, .int x3)] := hl
  have blk57 : ∀ (n57 : Nat) (H : Heap) (locs : List Loc) (σ : Sig) (x1 : Int32) (x2 : Int32) (x3 : Int32) (x4 : Int32) (x5 : Int32) (ls : Array Slot), va_P D vwCl (cw cI cT cM ad σ) H → va_S (gA 167 ad) s.heap H locs → lv_has ls 6 [(0, .ref (ad 160)), (1, .int x1), (2, .int x2), (3, .int x3), (4, .int x4), (5, .int x5)] → fX8_batch_57 F n57 σ x1 x2 x3 x4 x5 = some res → W p l e rX8_batch s m args below meth c H locs 0 0 Q (F0 m 57 ls []) := by
    intro n57
    induction n57 with
    | zero =>
      intro H locs σ x1 x2 x3 x4 x5 ls hP hS hl hf
      rw [fX8_batch_57] at hf
      cases hf
    | succ n57 ih57 =>
      skip
      intro H locs σ x1 x2 x3 x4 x5 ls hP hS hl hf
      rw [fX8_batch_57] at hf
      refine lv_iload hx hb dX8_batch_57 (lv_at hl 5 rfl) ?_
      refine lv_iload_n hx hb dX8_batch_59 rfl (lv_at hl 1 rfl) ?_
      refine lv_icmp_ge (tgt := 80) hx hb dX8_batch_60 (by decide) (fun hc8 => ?_) (fun hc8 => ?_)
      · rw [if_pos hc8] at hf
        refine lv_aload_n hx hb dX8_batch_80 rfl (lv_at hl 0 rfl) ?_
        refine va_get (ci := 6) (v := .ref (ad (10 * 0))) hx hb ht i_X8 hown hX.1 hP 160 cw_ri rfl 0 (by decide) (ht _ kFL_RX8_10) (fun _ h9 => h9) rfl dX8_batch_81 ?_
        refine va_get (ci := 5) (v := .ref (ad (10 * 0 + 1))) hx hb ht i_X7 hown hX.1 hP (10 * 0) (cw_tree (i := 0) (by decide)) rfl 0 (by decide) (ht _ kFL_RX8_40) (fun _ h9 => h9) rfl dX8_batch_84 ?_
        refine va_get (ci := 3) (v := .int (σ 0 6 1)) hx hb ht i_X4 hown hX.1 hP (10 * 0 + 1) (cw_nodes (i := 0) (by decide)) rfl 7 (by decide) (ht _ kFL_RX8_44) (fun _ h9 => h9) rfl dX8_batch_87 ?_
        refine lv_iload hx hb dX8_batch_90 (lv_at hl 4 rfl) ?_
        refine lv_isub hx hb dX8_batch_92 ?_
        have e0 := Option.some.inj hf
        subst e0
        exact hret _ _ _ _ hP hS dX8_batch_93
      · rw [if_neg hc8] at hf
        refine lv_aload_n hx hb dX8_batch_63 rfl (lv_at hl 0 rfl) ?_
        refine lv_iload_n hx hb dX8_batch_64 rfl (lv_at hl 2 rfl) ?_
        refine lv_iload hx hb dX8_batch_65 (lv_at hl 5 rfl) ?_
        refine lv_iload_n hx hb dX8_batch_67 rfl (lv_at hl 3 rfl) ?_
        refine lv_imul hx hb dX8_batch_68 ?_
        refine lv_iadd hx hb dX8_batch_69 ?_
        refine lv_iconst (v := (1 : Int32)) hx hb dX8_batch_70 (by decide) ?_
        obtain ⟨q9, hq9, hf⟩ := obE hf
        refine ct_cVv (rest := []) (tX8_addIfItCan hD hq9) hx hb hml hown ht hX hP hS wX8_addIfItCan kML_RX8_189 rfl rfl ⟨Nat.le_of_ble_eq_true rfl, Nat.le_of_ble_eq_true rfl⟩ (va_recv hX.1 hP rfl cw_ri) rfl hl.1 rfl (Nat.le_of_ble_eq_true rfl) dX8_batch_71 (fun H locs hP hS => ?_)
        refine lv_iinc (v := x5 + (1 : Int32)) (lv' := [(5, .int (x5 + (1 : Int32))), (0, .ref (ad 160)), (1, .int x1), (2, .int x2), (3, .int x3), (4, .int x4)]) hx hb dX8_batch_74 hl (k := 5) rfl rfl (by decide) rfl (fun ls hl => ?_)
        refine lv_goto (tgt := 57) hx hb dX8_batch_77 (by decide) ?_
        exact ih57 _ _ q9 x1 x2 x3 x4 (x5 + (1 : Int32)) ls hP hS (lv_sub hl [1, 2, 3, 4, 5, 0] rfl) hf
  unfold fX8_batch at hf
  refine lv_iload_n hx hb dX8_batch_0 rfl (lv_at hl 1 rfl) ?_
  refine lv_iconst (v := (1 : Int32)) hx hb dX8_batch_1 (by decide) ?_
  refine lv_bipush (v := (30 : Int32)) hx hb dX8_batch_2 (by decide) ?_
  obtain ⟨q1, hq1, hf⟩ := obE hf
  refine ct_cSi (rest := []) (tX8_isWithin hD hq1) hx hb hml hown ht hX hP hS wX8_isWithin kML_RX8_185 rfl rfl ⟨Nat.le_of_ble_eq_true rfl, Nat.le_of_ble_eq_true rfl⟩ rfl hl.1 rfl (Nat.le_of_ble_eq_true rfl) dX8_batch_4 (fun H locs hP hS => ?_)
  refine lv_if_eq (tgt := 28) hx hb dX8_batch_7 (by decide) (fun hc2 => ?_) (fun hc2 => ?_)
  · rw [if_pos hc2] at hf
    refine lv_ldc hx hb hown (ht _ kKI_RX8_110) dX8_batch_28 ?_
    have e0 := Option.some.inj hf
    subst e0
    exact hret _ _ _ _ hP hS dX8_batch_30
  · rw [if_neg hc2] at hf
    refine lv_iload_n hx hb dX8_batch_10 rfl (lv_at hl 2 rfl) ?_
    obtain ⟨q3, hq3, hf⟩ := obE hf
    refine ct_cSi (rest := []) (tX8_isKey hD hq3) hx hb hml hown ht hX hP hS wX8_isKey kML_RX8_153 rfl rfl ⟨Nat.le_of_ble_eq_true rfl, Nat.le_of_ble_eq_true rfl⟩ rfl hl.1 rfl (Nat.le_of_ble_eq_true rfl) dX8_batch_11 (fun H locs hP hS => ?_)
    refine lv_if_eq (tgt := 28) hx hb dX8_batch_14 (by decide) (fun hc4 => ?_) (fun hc4 => ?_)
    · rw [if_pos hc4] at hf
      refine lv_ldc hx hb hown (ht _ kKI_RX8_110) dX8_batch_28 ?_
      have e0 := Option.some.inj hf
      subst e0
      exact hret _ _ _ _ hP hS dX8_batch_30
    · rw [if_neg hc4] at hf
      refine lv_iload_n hx hb dX8_batch_17 rfl (lv_at hl 3 rfl) ?_
      refine lv_iconst (v := (1 : Int32)) hx hb dX8_batch_18 (by decide) ?_
      refine lv_sipush (v := (9999 : Int32)) hx hb dX8_batch_19 (by decide) ?_
      obtain ⟨q5, hq5, hf⟩ := obE hf
      refine ct_cSi (rest := []) (tX8_isWithin hD hq5) hx hb hml hown ht hX hP hS wX8_isWithin kML_RX8_185 rfl rfl ⟨Nat.le_of_ble_eq_true rfl, Nat.le_of_ble_eq_true rfl⟩ rfl hl.1 rfl (Nat.le_of_ble_eq_true rfl) dX8_batch_22 (fun H locs hP hS => ?_)
      refine lv_if_ne (tgt := 31) hx hb dX8_batch_25 (by decide) (fun hc6 => ?_) (fun hc6 => ?_)
      · rw [if_neg hc6] at hf
        refine lv_aload_n hx hb dX8_batch_31 rfl (lv_at hl 0 rfl) ?_
        refine va_get (ci := 6) (v := .ref (ad 161)) hx hb ht i_X8 hown hX.1 hP 160 cw_ri rfl 2 (by decide) (ht _ kFL_RX8_22) (fun _ h9 => h9) rfl dX8_batch_32 ?_
        refine lv_aload_n hx hb dX8_batch_35 rfl (lv_at hl 0 rfl) ?_
        refine va_get (ci := 6) (v := .ref (ad (10 * 0))) hx hb ht i_X8 hown hX.1 hP 160 cw_ri rfl 0 (by decide) (ht _ kFL_RX8_10) (fun _ h9 => h9) rfl dX8_batch_36 ?_
        obtain ⟨q7, hq7, hf⟩ := obE hf
        refine ct_cVv (rest := []) (tX5_remember hD hq7) hx hb hml hown ht hX hP hS wX5_remember kML_RX8_169 rfl rfl ⟨Nat.le_of_ble_eq_true rfl, Nat.le_of_ble_eq_true rfl⟩ (va_recv hX.1 hP rfl cw_past) rfl hl.1 rfl (Nat.le_of_ble_eq_true rfl) dX8_batch_39 (fun H locs hP hS => ?_)
        refine lv_aload_n hx hb dX8_batch_42 rfl (lv_at hl 0 rfl) ?_
        refine va_get (ci := 6) (v := .ref (ad (10 * 0))) hx hb ht i_X8 hown hX.1 hP 160 cw_ri rfl 0 (by decide) (ht _ kFL_RX8_10) (fun _ h9 => h9) rfl dX8_batch_43 ?_
        refine va_get (ci := 5) (v := .ref (ad (10 * 0 + 1))) hx hb ht i_X7 hown hX.1 hP (10 * 0) (cw_tree (i := 0) (by decide)) rfl 0 (by decide) (ht _ kFL_RX8_40) (fun _ h9 => h9) rfl dX8_batch_46 ?_
        refine va_get (ci := 3) (v := .int (q7 0 6 1)) hx hb ht i_X4 hown hX.1 hP (10 * 0 + 1) (cw_nodes (i := 0) (by decide)) rfl 7 (by decide) (ht _ kFL_RX8_44) (fun _ h9 => h9) rfl dX8_batch_49 ?_
        refine lv_istore (lv' := [(4, .int (q7 0 6 1)), (0, .ref (ad 160)), (1, .int x1), (2, .int x2), (3, .int x3)]) hx hb dX8_batch_52 hl (by decide) rfl (fun ls hl => ?_)
        refine lv_iconst (v := (0 : Int32)) hx hb dX8_batch_54 (by decide) ?_
        refine lv_istore (lv' := [(5, .int ((0 : Int32))), (4, .int (q7 0 6 1)), (0, .ref (ad 160)), (1, .int x1), (2, .int x2), (3, .int x3)]) hx hb dX8_batch_55 hl (by decide) rfl (fun ls hl => ?_)
        exact blk57 F _ _ q7 x1 x2 x3 (q7 0 6 1) (0 : Int32) ls hP hS (lv_sub hl [2, 3, 4, 5, 1, 0] rfl) hf
      · rw [if_pos hc6] at hf
        refine lv_ldc hx hb hown (ht _ kKI_RX8_110) dX8_batch_28 ?_
        have e0 := Option.some.inj hf
        subst e0
        exact hret _ _ _ _ hP hS dX8_batch_30
def fX8_addRising_57 (F : Nat) (j : Nat) (k12 : Sig → Int32 → Int32 → Int32 → Option (Sig)) (σ : Sig) (x2 : Int32) (x3 : Int32) (x4 : Int32) : Option (Sig) := (fX4_nextRising F (σ j) x3).bind fun q11 => (k12 σ x2 q11 (x4 + (1 : Int32)))
def fX8_addRising_12 (F : Nat) (j : Nat) : Nat → Sig → Int32 → Int32 → Int32 → Option (Sig)
  | 0, _, _, _, _ => none
  | n + 1, σ, x2, x3, x4 => if (60 : Int32) ≤ x4 then (some σ) else (if x3 = (-1 : Int32) then (some σ) else ((fX4_keyOf F (σ j) x3).bind fun q4 => (if q4 ≤ x2 then (fX8_addRising_57 F j (fun σ x2 x3 x4 => fX8_addRising_12 F j n σ x2 x3 x4) σ x2 x3 x4) else ((fX8_hasRoom F σ).bind fun q6 => (if q6 = 0 then (fX8_addRising_57 F j (fun σ x2 x3 x4 => fX8_addRising_12 F j n σ x2 x3 x4) σ x2 x3 x4) else ((fX4_keyOf F (σ j) x3).bind fun q8 => ((fX4_worthOf F (σ j) x3).bind fun q9 => ((fX7_add F (σ 0) q8 q9).bind fun q10 => (fX8_addRising_57 F j (fun σ x2 x3 x4 => fX8_addRising_12 F j n σ x2 x3 x4) (u3 σ 0 q10) x2 x3 x4)))))))))
def fX8_addRising (F : Nat) (σ : Sig) (j : Nat) (x2 : Int32) : Option (Sig) := (fX4_leastBelow F (σ j) (σ j 6 0)).bind fun q1 => (fX8_addRising_12 F j F σ x2 q1 (0 : Int32))
abbrev rX8_addRising : Room := { frames := 5, cells := 0, slots := 0, locals := 119 }
theorem wX8_addRising : kV yX8_addRising cX8_addRising 5 none 2 := ⟨kCO_yX8_addRising, kIM_yX8_addRising, kSE_yX8_addRising, kIN_RX8, by decide +kernel, by decide +kernel, by decide +kernel⟩
set_option maxHeartbeats 4000000 in
set_option maxRecDepth 100000 in
theorem tX8_addRising {l : Launch} {D : va_G} {cI cT cM : ClassId} {ad : Nat → Nat} (hD : gInj 167 ad) {F : Nat} {σ : Sig} {j : Nat} (hj : j < 16) (hj0 : j ≠ 0) {x2 : Int32} {res : Sig} (hf : fX8_addRising F σ j x2 = some res) : CTv l yX8_addRising cX8_addRising 5 rX8_addRising D (cTy cI cT cM) (gA 167 ad) [.ref (ad 160), .ref (ad (10 * j + 1)), .int x2] (cw cI cT cM ad σ) (cw cI cT cM ad res) := by
  refine ct_void (by decide) (Nat.le_of_ble_eq_true rfl) ?_
  intro p e s m args below meth c Q ls hx hb hml hown ht hX hret hP hS hl
  have hl : lv_has ls 5 [(0, .ref (ad 160)), (1, .ref (ad (10 * j + 1))), (2, .int x2)] := hl
  have blk12 : ∀ (n12 : Nat) (H : Heap) (locs : List Loc) (σ : Sig) (x2 : Int32) (x3 : Int32) (x4 : Int32) (ls : Array Slot), va_P D vwCl (cw cI cT cM ad σ) H → va_S (gA 167 ad) s.heap H locs → lv_has ls 5 [(0, .ref (ad 160)), (1, .ref (ad (10 * j + 1))), (2, .int x2), (3, .int x3), (4, .int x4)] → fX8_addRising_12 F j n12 σ x2 x3 x4 = some res → W p l e rX8_addRising s m args below meth c H locs 0 0 Q (F0 m 12 ls []) := by
    intro n12
    induction n12 with
    | zero =>
      intro H locs σ x2 x3 x4 ls hP hS hl hf
      rw [fX8_addRising_12] at hf
      cases hf
    | succ n12 ih12 =>
      skip
      have blk57 : ∀ (H : Heap) (locs : List Loc) (σ : Sig) (x2 : Int32) (x3 : Int32) (x4 : Int32) (ls : Array Slot), va_P D vwCl (cw cI cT cM ad σ) H → va_S (gA 167 ad) s.heap H locs → lv_has ls 5 [(0, .ref (ad 160)), (1, .ref (ad (10 * j + 1))), (2, .int x2), (3, .int x3), (4, .int x4)] → fX8_addRising_57 F j (fun σ x2 x3 x4 => fX8_addRising_12 F j n12 σ x2 x3 x4) σ x2 x3 x4 = some res → W p l e rX8_addRising s m args below meth c H locs 0 0 Q (F0 m 57 ls []) := by
        intro H locs σ x2 x3 x4 ls hP hS hl hf
        unfold fX8_addRising_57 at hf
        refine lv_aload_n hx hb dX8_addRising_57 rfl (lv_at hl 1 rfl) ?_
        refine lv_iload_n hx hb dX8_addRising_58 rfl (lv_at hl 3 rfl) ?_
        obtain ⟨q11, hq11, hf⟩ := obE hf
        refine ct_cVi (rest := []) (tX4_nextRising hD hj hq11) hx hb hml hown ht hX (P_u3 j hP) hS wX4_nextRising kML_RX8_150 rfl rfl ⟨Nat.le_of_ble_eq_true rfl, Nat.le_of_ble_eq_true rfl⟩ (va_recv hX.1 hP rfl (cw_nodes (i := j) hj)) rfl hl.1 rfl (Nat.le_of_ble_eq_true rfl) dX8_addRising_59 (fun H locs hP hS => ?_)
        rw [u3_self] at hP
        refine lv_istore_n (lv' := [(3, .int q11), (0, .ref (ad 160)), (1, .ref (ad (10 * j + 1))), (2, .int x2), (4, .int x4)]) hx hb dX8_addRising_62 rfl hl (by decide) rfl (fun ls hl => ?_)
        refine lv_iinc (v := x4 + (1 : Int32)) (lv' := [(4, .int (x4 + (1 : Int32))), (3, .int q11), (0, .ref (ad 160)), (1, .ref (ad (10 * j + 1))), (2, .int x2)]) hx hb dX8_addRising_63 hl (k := 4) rfl rfl (by decide) rfl (fun ls hl => ?_)
        refine lv_goto (tgt := 12) hx hb dX8_addRising_66 (by decide) ?_
        exact ih12 _ _ σ x2 q11 (x4 + (1 : Int32)) ls hP hS (lv_sub hl [2, 3, 4, 1, 0] rfl) hf
      intro H locs σ x2 x3 x4 ls hP hS hl hf
      rw [fX8_addRising_12] at hf
      refine lv_iload hx hb dX8_addRising_12 (lv_at hl 4 rfl) ?_
      refine lv_bipush (v := (60 : Int32)) hx hb dX8_addRising_14 (by decide) ?_
      refine lv_icmp_ge (tgt := 69) hx hb dX8_addRising_16 (by decide) (fun hc2 => ?_) (fun hc2 => ?_)
      · rw [if_pos hc2] at hf
        have e0 := Option.some.inj hf
        subst e0
        exact hret _ _ _ _ hP hS dX8_addRising_69
      · rw [if_neg hc2] at hf
        refine lv_iload_n hx hb dX8_addRising_19 rfl (lv_at hl 3 rfl) ?_
        refine lv_iconst (v := (-1 : Int32)) hx hb dX8_addRising_20 (by decide) ?_
        refine lv_icmp_eq (tgt := 69) hx hb dX8_addRising_21 (by decide) (fun hc3 => ?_) (fun hc3 => ?_)
        · rw [if_pos hc3] at hf
          have e0 := Option.some.inj hf
          subst e0
          exact hret _ _ _ _ hP hS dX8_addRising_69
        · rw [if_neg hc3] at hf
          refine lv_aload_n hx hb dX8_addRising_24 rfl (lv_at hl 1 rfl) ?_
          refine lv_iload_n hx hb dX8_addRising_25 rfl (lv_at hl 3 rfl) ?_
          obtain ⟨q4, hq4, hf⟩ := obE hf
          refine ct_cVi (rest := []) (tX4_keyOf hD hj hq4) hx hb hml hown ht hX (P_u3 j hP) hS wX4_keyOf kML_RX8_53 rfl rfl ⟨Nat.le_of_ble_eq_true rfl, Nat.le_of_ble_eq_true rfl⟩ (va_recv hX.1 hP rfl (cw_nodes (i := j) hj)) rfl hl.1 rfl (Nat.le_of_ble_eq_true rfl) dX8_addRising_26 (fun H locs hP hS => ?_)
          rw [u3_self] at hP
          refine lv_iload_n hx hb dX8_addRising_29 rfl (lv_at hl 2 rfl) ?_
          refine lv_icmp_le (tgt := 57) hx hb dX8_addRising_30 (by decide) (fun hc5 => ?_) (fun hc5 => ?_)
          · rw [if_pos hc5] at hf
            exact blk57 _ _ σ x2 x3 x4 ls hP hS (lv_sub hl [0, 1, 2, 3, 4] rfl) hf
          · rw [if_neg hc5] at hf
            refine lv_aload_n hx hb dX8_addRising_33 rfl (lv_at hl 0 rfl) ?_
            obtain ⟨q6, hq6, hf⟩ := obE hf
            refine ct_cVi (rest := []) (tX8_hasRoom hD hq6) hx hb hml hown ht hX hP hS wX8_hasRoom kML_RX8_164 rfl rfl ⟨Nat.le_of_ble_eq_true rfl, Nat.le_of_ble_eq_true rfl⟩ (va_recv hX.1 hP rfl cw_ri) rfl hl.1 rfl (Nat.le_of_ble_eq_true rfl) dX8_addRising_34 (fun H locs hP hS => ?_)
            refine lv_if_eq (tgt := 57) hx hb dX8_addRising_37 (by decide) (fun hc7 => ?_) (fun hc7 => ?_)
            · rw [if_pos hc7] at hf
              exact blk57 _ _ σ x2 x3 x4 ls hP hS (lv_sub hl [0, 1, 2, 3, 4] rfl) hf
            · rw [if_neg hc7] at hf
              refine lv_aload_n hx hb dX8_addRising_40 rfl (lv_at hl 0 rfl) ?_
              refine va_get (ci := 6) (v := .ref (ad (10 * 0))) hx hb ht i_X8 hown hX.1 hP 160 cw_ri rfl 0 (by decide) (ht _ kFL_RX8_10) (fun _ h9 => h9) rfl dX8_addRising_41 ?_
              refine lv_aload_n hx hb dX8_addRising_44 rfl (lv_at hl 1 rfl) ?_
              refine lv_iload_n hx hb dX8_addRising_45 rfl (lv_at hl 3 rfl) ?_
              obtain ⟨q8, hq8, hf⟩ := obE hf
              refine ct_cVi (rest := [.ref (ad (10 * 0))]) (tX4_keyOf hD hj hq8) hx hb hml hown ht hX (P_u3 j hP) hS wX4_keyOf kML_RX8_53 rfl rfl ⟨Nat.le_of_ble_eq_true rfl, Nat.le_of_ble_eq_true rfl⟩ (va_recv hX.1 hP rfl (cw_nodes (i := j) hj)) rfl hl.1 rfl (Nat.le_of_ble_eq_true rfl) dX8_addRising_46 (fun H locs hP hS => ?_)
              rw [u3_self] at hP
              refine lv_aload_n hx hb dX8_addRising_49 rfl (lv_at hl 1 rfl) ?_
              refine lv_iload_n hx hb dX8_addRising_50 rfl (lv_at hl 3 rfl) ?_
              obtain ⟨q9, hq9, hf⟩ := obE hf
              refine ct_cVi (rest := [.int q8, .ref (ad (10 * 0))]) (tX4_worthOf hD hj hq9) hx hb hml hown ht hX (P_u3 j hP) hS wX4_worthOf kML_RX8_141 rfl rfl ⟨Nat.le_of_ble_eq_true rfl, Nat.le_of_ble_eq_true rfl⟩ (va_recv hX.1 hP rfl (cw_nodes (i := j) hj)) rfl hl.1 rfl (Nat.le_of_ble_eq_true rfl) dX8_addRising_51 (fun H locs hP hS => ?_)
              rw [u3_self] at hP
              obtain ⟨q10, hq10, hf⟩ := obE hf
              refine ct_cVv (rest := []) (tX7_add hD (by decide) hq10) hx hb hml hown ht hX (P_u3 0 hP) hS wX7_add kML_RX8_173 rfl rfl ⟨Nat.le_of_ble_eq_true rfl, Nat.le_of_ble_eq_true rfl⟩ (va_recv hX.1 hP rfl (cw_tree (i := 0) (by decide))) rfl hl.1 rfl (Nat.le_of_ble_eq_true rfl) dX8_addRising_54 (fun H locs hP hS => ?_)
              exact blk57 _ _ (u3 σ 0 q10) x2 x3 x4 ls hP hS (lv_sub hl [0, 1, 2, 3, 4] rfl) hf
  unfold fX8_addRising at hf
  refine lv_aload_n hx hb dX8_addRising_0 rfl (lv_at hl 1 rfl) ?_
  refine lv_aload_n hx hb dX8_addRising_1 rfl (lv_at hl 1 rfl) ?_
  refine va_get (ci := 3) (v := .int (σ j 6 0)) hx hb ht i_X4 hown hX.1 hP (10 * j + 1) (cw_nodes (i := j) hj) rfl 6 (by decide) (ht _ kFL_RX8_50) (fun _ h9 => h9) rfl dX8_addRising_2 ?_
  obtain ⟨q1, hq1, hf⟩ := obE hf
  refine ct_cVi (rest := []) (tX4_leastBelow hD hj hq1) hx hb hml hown ht hX (P_u3 j hP) hS wX4_leastBelow kML_RX8_147 rfl rfl ⟨Nat.le_of_ble_eq_true rfl, Nat.le_of_ble_eq_true rfl⟩ (va_recv hX.1 hP rfl (cw_nodes (i := j) hj)) rfl hl.1 rfl (Nat.le_of_ble_eq_true rfl) dX8_addRising_5 (fun H locs hP hS => ?_)
  rw [u3_self] at hP
  refine lv_istore_n (lv' := [(3, .int q1), (0, .ref (ad 160)), (1, .ref (ad (10 * j + 1))), (2, .int x2)]) hx hb dX8_addRising_8 rfl hl (by decide) rfl (fun ls hl => ?_)
  refine lv_iconst (v := (0 : Int32)) hx hb dX8_addRising_9 (by decide) ?_
  refine lv_istore (lv' := [(4, .int ((0 : Int32))), (3, .int q1), (0, .ref (ad 160)), (1, .ref (ad (10 * j + 1))), (2, .int x2)]) hx hb dX8_addRising_10 hl (by decide) rfl (fun ls hl => ?_)
  exact blk12 F _ _ σ x2 q1 (0 : Int32) ls hP hS (lv_sub hl [2, 3, 4, 1, 0] rfl) hf
def fX8_rebuild (F : Nat) (σ : Sig) : Option (Int32 × Sig) := (fX5_remember F σ).bind fun q1 => ((fX7_copyFrom F (q1 1) (q1 0)).bind fun q2 => ((fX4_clear F ((u3 q1 1 q2) 0)).bind fun q3 => ((fX8_addRising F (u3 (u3 q1 1 q2) 0 q3) 1 (-1 : Int32)).bind fun q4 => ((fX6_depth F (q4 0)).bind fun q5 => (some (q5, q4))))))
abbrev rX8_rebuild : Room := { frames := 6, cells := 0, slots := 0, locals := 143 }
theorem wX8_rebuild : kV yX8_rebuild cX8_rebuild 1 (some .int) 0 := ⟨kCO_yX8_rebuild, kIM_yX8_rebuild, kSE_yX8_rebuild, kIN_RX8, by decide +kernel, by decide +kernel, by decide +kernel⟩
set_option maxHeartbeats 4000000 in
set_option maxRecDepth 100000 in
theorem tX8_rebuild {l : Launch} {D : va_G} {cI cT cM : ClassId} {ad : Nat → Nat} (hD : gInj 167 ad) {F : Nat} {σ : Sig} {res : Int32 × Sig} (hf : fX8_rebuild F σ = some res) : CTi l yX8_rebuild cX8_rebuild 1 .int rX8_rebuild D (cTy cI cT cM) (gA 167 ad) [.ref (ad 160)] (cw cI cT cM ad σ) res.1 (cw cI cT cM ad res.2) := by
  refine ct_int (by decide) (Nat.le_of_ble_eq_true rfl) ?_
  intro p e s m args below meth c Q ls hx hb hml hown ht hX hret hP hS hl
  have hl : lv_has ls 1 [(0, .ref (ad 160))] := hl
  unfold fX8_rebuild at hf
  refine lv_aload_n hx hb dX8_rebuild_0 rfl (lv_at hl 0 rfl) ?_
  refine va_get (ci := 6) (v := .ref (ad 161)) hx hb ht i_X8 hown hX.1 hP 160 cw_ri rfl 2 (by decide) (ht _ kFL_RX8_22) (fun _ h9 => h9) rfl dX8_rebuild_1 ?_
  refine lv_aload_n hx hb dX8_rebuild_4 rfl (lv_at hl 0 rfl) ?_
  refine va_get (ci := 6) (v := .ref (ad (10 * 0))) hx hb ht i_X8 hown hX.1 hP 160 cw_ri rfl 0 (by decide) (ht _ kFL_RX8_10) (fun _ h9 => h9) rfl dX8_rebuild_5 ?_
  obtain ⟨q1, hq1, hf⟩ := obE hf
  refine ct_cVv (rest := []) (tX5_remember hD hq1) hx hb hml hown ht hX hP hS wX5_remember kML_RX8_169 rfl rfl ⟨Nat.le_of_ble_eq_true rfl, Nat.le_of_ble_eq_true rfl⟩ (va_recv hX.1 hP rfl cw_past) rfl hl.1 rfl (Nat.le_of_ble_eq_true rfl) dX8_rebuild_8 (fun H locs hP hS => ?_)
  refine lv_aload_n hx hb dX8_rebuild_11 rfl (lv_at hl 0 rfl) ?_
  refine va_get (ci := 6) (v := .ref (ad (10 * 1))) hx hb ht i_X8 hown hX.1 hP 160 cw_ri rfl 1 (by decide) (ht _ kFL_RX8_16) (fun _ h9 => h9) rfl dX8_rebuild_12 ?_
  refine lv_aload_n hx hb dX8_rebuild_15 rfl (lv_at hl 0 rfl) ?_
  refine va_get (ci := 6) (v := .ref (ad (10 * 0))) hx hb ht i_X8 hown hX.1 hP 160 cw_ri rfl 0 (by decide) (ht _ kFL_RX8_10) (fun _ h9 => h9) rfl dX8_rebuild_16 ?_
  obtain ⟨q2, hq2, hf⟩ := obE hf
  refine ct_cVv (rest := []) (tX7_copyFrom hD (by decide) (by decide) (by decide) hq2) hx hb hml hown ht hX (P_u3 1 hP) hS wX7_copyFrom kML_RX8_192 rfl rfl ⟨Nat.le_of_ble_eq_true rfl, Nat.le_of_ble_eq_true rfl⟩ (va_recv hX.1 hP rfl (cw_tree (i := 1) (by decide))) rfl hl.1 rfl (Nat.le_of_ble_eq_true rfl) dX8_rebuild_19 (fun H locs hP hS => ?_)
  refine lv_aload_n hx hb dX8_rebuild_22 rfl (lv_at hl 0 rfl) ?_
  refine va_get (ci := 6) (v := .ref (ad (10 * 0))) hx hb ht i_X8 hown hX.1 hP 160 cw_ri rfl 0 (by decide) (ht _ kFL_RX8_10) (fun _ h9 => h9) rfl dX8_rebuild_23 ?_
  refine va_get (ci := 5) (v := .ref (ad (10 * 0 + 1))) hx hb ht i_X7 hown hX.1 hP (10 * 0) (cw_tree (i := 0) (by decide)) rfl 0 (by decide) (ht _ kFL_RX8_40) (fun _ h9 => h9) rfl dX8_rebuild_26 ?_
  obtain ⟨q3, hq3, hf⟩ := obE hf
  refine ct_cVv (rest := []) (tX4_clear hD (by decide) hq3) hx hb hml hown ht hX (P_u3 0 hP) hS wX4_clear kML_RX8_195 rfl rfl ⟨Nat.le_of_ble_eq_true rfl, Nat.le_of_ble_eq_true rfl⟩ (va_recv hX.1 hP rfl (cw_nodes (i := 0) (by decide))) rfl hl.1 rfl (Nat.le_of_ble_eq_true rfl) dX8_rebuild_29 (fun H locs hP hS => ?_)
  refine lv_aload_n hx hb dX8_rebuild_32 rfl (lv_at hl 0 rfl) ?_
  refine lv_aload_n hx hb dX8_rebuild_33 rfl (lv_at hl 0 rfl) ?_
  refine va_get (ci := 6) (v := .ref (ad (10 * 1))) hx hb ht i_X8 hown hX.1 hP 160 cw_ri rfl 1 (by decide) (ht _ kFL_RX8_16) (fun _ h9 => h9) rfl dX8_rebuild_34 ?_
  refine va_get (ci := 5) (v := .ref (ad (10 * 1 + 1))) hx hb ht i_X7 hown hX.1 hP (10 * 1) (cw_tree (i := 1) (by decide)) rfl 0 (by decide) (ht _ kFL_RX8_40) (fun _ h9 => h9) rfl dX8_rebuild_37 ?_
  refine lv_iconst (v := (-1 : Int32)) hx hb dX8_rebuild_40 (by decide) ?_
  obtain ⟨q4, hq4, hf⟩ := obE hf
  refine ct_cVv (rest := []) (tX8_addRising hD (by decide) (by decide) hq4) hx hb hml hown ht hX hP hS wX8_addRising kML_RX8_198 rfl rfl ⟨Nat.le_of_ble_eq_true rfl, Nat.le_of_ble_eq_true rfl⟩ (va_recv hX.1 hP rfl cw_ri) rfl hl.1 rfl (Nat.le_of_ble_eq_true rfl) dX8_rebuild_41 (fun H locs hP hS => ?_)
  refine lv_aload_n hx hb dX8_rebuild_44 rfl (lv_at hl 0 rfl) ?_
  refine va_get (ci := 6) (v := .ref (ad (10 * 0))) hx hb ht i_X8 hown hX.1 hP 160 cw_ri rfl 0 (by decide) (ht _ kFL_RX8_10) (fun _ h9 => h9) rfl dX8_rebuild_45 ?_
  refine va_get (ci := 5) (v := .ref (ad (10 * 0 + 1))) hx hb ht i_X7 hown hX.1 hP (10 * 0) (cw_tree (i := 0) (by decide)) rfl 0 (by decide) (ht _ kFL_RX8_40) (fun _ h9 => h9) rfl dX8_rebuild_48 ?_
  obtain ⟨q5, hq5, hf⟩ := obE hf
  refine ct_cSi (rest := []) (tX6_depth hD (by decide) hq5) hx hb hml hown ht hX (P_u3 0 hP) hS wX6_depth kML_RX8_60 rfl rfl ⟨Nat.le_of_ble_eq_true rfl, Nat.le_of_ble_eq_true rfl⟩ rfl hl.1 rfl (Nat.le_of_ble_eq_true rfl) dX8_rebuild_51 (fun H locs hP hS => ?_)
  rw [u3_self] at hP
  have e0 := Option.some.inj hf
  subst e0
  exact hret _ _ _ _ hP hS dX8_rebuild_54
def fX8_isImage (F : Nat) (x0 : Int32) : Option (Int32) := if x0 < 0 then (some (0 : Int32)) else (if (2 : Int32) ≤ x0 then (some (0 : Int32)) else (some (1 : Int32)))
abbrev rX8_isImage : Room := { frames := 0, cells := 0, slots := 0, locals := 0 }
theorem wX8_isImage : kF yX8_isImage cX8_isImage 1 (some .boolean) 1 := ⟨kCO_yX8_isImage, kSM_yX8_isImage, kIN_RX8, by decide +kernel, by decide +kernel, by decide +kernel⟩
set_option maxHeartbeats 4000000 in
set_option maxRecDepth 100000 in
theorem tX8_isImage {l : Launch} {D : va_G} {cI cT cM : ClassId} {ad : Nat → Nat} (hD : gInj 167 ad) {F : Nat} {σ : Sig} {x0 : Int32} {res : Int32} (hf : fX8_isImage F x0 = some res) : CTi l yX8_isImage cX8_isImage 1 .boolean rX8_isImage D (cTy cI cT cM) (gA 167 ad) [.int x0] (cw cI cT cM ad σ) res (cw cI cT cM ad σ) := by
  refine ct_bool (by decide) (Nat.le_of_ble_eq_true rfl) ?_
  intro p e s m args below meth c Q ls hx hb hml hown ht hX hret hP hS hl
  have hl : lv_has ls 1 [(0, .int x0)] := hl
  unfold fX8_isImage at hf
  refine lv_iload_n hx hb dX8_isImage_0 rfl (lv_at hl 0 rfl) ?_
  refine lv_if_lt (tgt := 13) hx hb dX8_isImage_1 (by decide) (fun hc1 => ?_) (fun hc1 => ?_)
  · rw [if_pos hc1] at hf
    refine lv_iconst (v := (0 : Int32)) hx hb dX8_isImage_13 (by decide) ?_
    have e0 := Option.some.inj hf
    subst e0
    exact hret _ _ _ _ (Or.inl rfl) hP hS dX8_isImage_14
  · rw [if_neg hc1] at hf
    refine lv_iload_n hx hb dX8_isImage_4 rfl (lv_at hl 0 rfl) ?_
    refine lv_iconst (v := (2 : Int32)) hx hb dX8_isImage_5 (by decide) ?_
    refine lv_icmp_ge (tgt := 13) hx hb dX8_isImage_6 (by decide) (fun hc2 => ?_) (fun hc2 => ?_)
    · rw [if_pos hc2] at hf
      refine lv_iconst (v := (0 : Int32)) hx hb dX8_isImage_13 (by decide) ?_
      have e0 := Option.some.inj hf
      subst e0
      exact hret _ _ _ _ (Or.inl rfl) hP hS dX8_isImage_14
    · rw [if_neg hc2] at hf
      refine lv_iconst (v := (1 : Int32)) hx hb dX8_isImage_9 (by decide) ?_
      refine lv_goto (tgt := 14) hx hb dX8_isImage_10 (by decide) ?_
      have e0 := Option.some.inj hf
      subst e0
      exact hret _ _ _ _ (Or.inr rfl) hP hS dX8_isImage_14
def fX8_join (F : Nat) (σ : Sig) (x1 : Int32) : Option (Int32 × Sig) := (fX8_isImage F x1).bind fun q1 => (if q1 = 0 then (some ((-1000000001 : Int32), σ)) else (if x1 < 0 ∨ 2 ≤ x1.toNatClampNeg then none else (if (σ 16 (1 + x1.toNatClampNeg) 1) = 0 then (some ((-1000000003 : Int32), σ)) else ((fX5_remember F σ).bind fun q6 => ((fX4_greatestBelow F (q6 0) (q6 0 6 0)).bind fun q7 => ((fX4_keyOf F (q6 0) q7).bind fun q8 => (if x1 < 0 ∨ 2 ≤ x1.toNatClampNeg then none else ((fX8_addRising F q6 (14 + x1.toNatClampNeg) q8).bind fun q11 => (some ((q11 0 6 1) - (q6 0 6 1), q11))))))))))
abbrev rX8_join : Room := { frames := 6, cells := 0, slots := 0, locals := 143 }
theorem wX8_join : kV yX8_join cX8_join 4 (some .int) 1 := ⟨kCO_yX8_join, kIM_yX8_join, kSE_yX8_join, kIN_RX8, by decide +kernel, by decide +kernel, by decide +kernel⟩
set_option maxHeartbeats 4000000 in
set_option maxRecDepth 100000 in
theorem tX8_join {l : Launch} {D : va_G} {cI cT cM : ClassId} {ad : Nat → Nat} (hD : gInj 167 ad) {F : Nat} {σ : Sig} {x1 : Int32} {res : Int32 × Sig} (hf : fX8_join F σ x1 = some res) : CTi l yX8_join cX8_join 4 .int rX8_join D (cTy cI cT cM) (gA 167 ad) [.ref (ad 160), .int x1] (cw cI cT cM ad σ) res.1 (cw cI cT cM ad res.2) := by
  refine ct_int (by decide) (Nat.le_of_ble_eq_true rfl) ?_
  intro p e s m args below meth c Q ls hx hb hml hown ht hX hret hP hS hl
  have hl : lv_has ls 4 [(0, .ref (ad 160)), (1, .int x1)] := hl
  unfold fX8_join at hf
  refine lv_iload_n hx hb dX8_join_0 rfl (lv_at hl 1 rfl) ?_
  obtain ⟨q1, hq1, hf⟩ := obE hf
  refine ct_cSi (rest := []) (tX8_isImage hD hq1) hx hb hml hown ht hX hP hS wX8_isImage kML_RX8_202 rfl rfl ⟨Nat.le_of_ble_eq_true rfl, Nat.le_of_ble_eq_true rfl⟩ rfl hl.1 rfl (Nat.le_of_ble_eq_true rfl) dX8_join_1 (fun H locs hP hS => ?_)
  refine lv_if_ne (tgt := 10) hx hb dX8_join_4 (by decide) (fun hc2 => ?_) (fun hc2 => ?_)
  · rw [if_neg hc2] at hf
    refine lv_aload_n hx hb dX8_join_10 rfl (lv_at hl 0 rfl) ?_
    refine va_get (ci := 6) (v := .ref (ad 163)) hx hb ht i_X8 hown hX.1 hP 160 cw_ri rfl 3 (by decide) (ht _ kFL_RX8_35) (fun _ h9 => h9) rfl dX8_join_11 ?_
    refine lv_iload_n hx hb dX8_join_14 rfl (lv_at hl 1 rfl) ?_
    obtain ⟨hn3, hf⟩ := ngE _ hf
    have hb4 : x1.toNatClampNeg < 2 := Nat.not_le.mp fun q => hn3 (Or.inr q)
    refine va_aldq hx hb hX.1 hP 163 2 cw_images rfl hn3 dX8_join_15 ?_
    refine W.eq (g2 := F0 m 16 ls [.ref (ad (164 + x1.toNatClampNeg))]) rfl ?_
    refine va_get (ci := 2) (v := .int (σ 16 (1 + x1.toNatClampNeg) 1)) hx hb ht i_X3 hown hX.1 hP (164 + x1.toNatClampNeg) (cw_img hb4) rfl 2 (by decide) (ht _ kFL_RX8_205) (fun _ h9 => h9) rfl dX8_join_16 ?_
    refine lv_if_ne (tgt := 25) hx hb dX8_join_19 (by decide) (fun hc5 => ?_) (fun hc5 => ?_)
    · rw [if_neg hc5] at hf
      refine lv_aload_n hx hb dX8_join_25 rfl (lv_at hl 0 rfl) ?_
      refine va_get (ci := 6) (v := .ref (ad 161)) hx hb ht i_X8 hown hX.1 hP 160 cw_ri rfl 2 (by decide) (ht _ kFL_RX8_22) (fun _ h9 => h9) rfl dX8_join_26 ?_
      refine lv_aload_n hx hb dX8_join_29 rfl (lv_at hl 0 rfl) ?_
      refine va_get (ci := 6) (v := .ref (ad (10 * 0))) hx hb ht i_X8 hown hX.1 hP 160 cw_ri rfl 0 (by decide) (ht _ kFL_RX8_10) (fun _ h9 => h9) rfl dX8_join_30 ?_
      obtain ⟨q6, hq6, hf⟩ := obE hf
      refine ct_cVv (rest := []) (tX5_remember hD hq6) hx hb hml hown ht hX hP hS wX5_remember kML_RX8_169 rfl rfl ⟨Nat.le_of_ble_eq_true rfl, Nat.le_of_ble_eq_true rfl⟩ (va_recv hX.1 hP rfl cw_past) rfl hl.1 rfl (Nat.le_of_ble_eq_true rfl) dX8_join_33 (fun H locs hP hS => ?_)
      refine lv_aload_n hx hb dX8_join_36 rfl (lv_at hl 0 rfl) ?_
      refine va_get (ci := 6) (v := .ref (ad (10 * 0))) hx hb ht i_X8 hown hX.1 hP 160 cw_ri rfl 0 (by decide) (ht _ kFL_RX8_10) (fun _ h9 => h9) rfl dX8_join_37 ?_
      refine va_get (ci := 5) (v := .ref (ad (10 * 0 + 1))) hx hb ht i_X7 hown hX.1 hP (10 * 0) (cw_tree (i := 0) (by decide)) rfl 0 (by decide) (ht _ kFL_RX8_40) (fun _ h9 => h9) rfl dX8_join_40 ?_
      refine va_get (ci := 3) (v := .int (q6 0 6 1)) hx hb ht i_X4 hown hX.1 hP (10 * 0 + 1) (cw_nodes (i := 0) (by decide)) rfl 7 (by decide) (ht _ kFL_RX8_44) (fun _ h9 => h9) rfl dX8_join_43 ?_
      refine lv_istore_n (lv' := [(2, .int (q6 0 6 1)), (0, .ref (ad 160)), (1, .int x1)]) hx hb dX8_join_46 rfl hl (by decide) rfl (fun ls hl => ?_)
      refine lv_aload_n hx hb dX8_join_47 rfl (lv_at hl 1 rfl) ?_
      refine va_get (ci := 6) (v := .ref (ad (10 * 0))) hx hb ht i_X8 hown hX.1 hP 160 cw_ri rfl 0 (by decide) (ht _ kFL_RX8_10) (fun _ h9 => h9) rfl dX8_join_48 ?_
      refine va_get (ci := 5) (v := .ref (ad (10 * 0 + 1))) hx hb ht i_X7 hown hX.1 hP (10 * 0) (cw_tree (i := 0) (by decide)) rfl 0 (by decide) (ht _ kFL_RX8_40) (fun _ h9 => h9) rfl dX8_join_51 ?_
      refine lv_aload_n hx hb dX8_join_54 rfl (lv_at hl 1 rfl) ?_
      refine va_get (ci := 6) (v := .ref (ad (10 * 0))) hx hb ht i_X8 hown hX.1 hP 160 cw_ri rfl 0 (by decide) (ht _ kFL_RX8_10) (fun _ h9 => h9) rfl dX8_join_55 ?_
      refine va_get (ci := 5) (v := .ref (ad (10 * 0 + 1))) hx hb ht i_X7 hown hX.1 hP (10 * 0) (cw_tree (i := 0) (by decide)) rfl 0 (by decide) (ht _ kFL_RX8_40) (fun _ h9 => h9) rfl dX8_join_58 ?_
      refine lv_aload_n hx hb dX8_join_61 rfl (lv_at hl 1 rfl) ?_
      refine va_get (ci := 6) (v := .ref (ad (10 * 0))) hx hb ht i_X8 hown hX.1 hP 160 cw_ri rfl 0 (by decide) (ht _ kFL_RX8_10) (fun _ h9 => h9) rfl dX8_join_62 ?_
      refine va_get (ci := 5) (v := .ref (ad (10 * 0 + 1))) hx hb ht i_X7 hown hX.1 hP (10 * 0) (cw_tree (i := 0) (by decide)) rfl 0 (by decide) (ht _ kFL_RX8_40) (fun _ h9 => h9) rfl dX8_join_65 ?_
      refine va_get (ci := 3) (v := .int (q6 0 6 0)) hx hb ht i_X4 hown hX.1 hP (10 * 0 + 1) (cw_nodes (i := 0) (by decide)) rfl 6 (by decide) (ht _ kFL_RX8_50) (fun _ h9 => h9) rfl dX8_join_68 ?_
      obtain ⟨q7, hq7, hf⟩ := obE hf
      refine ct_cVi (rest := [.ref (ad (10 * 0 + 1))]) (tX4_greatestBelow hD (by decide) hq7) hx hb hml hown ht hX (P_u3 0 hP) hS wX4_greatestBelow kML_RX8_209 rfl rfl ⟨Nat.le_of_ble_eq_true rfl, Nat.le_of_ble_eq_true rfl⟩ (va_recv hX.1 hP rfl (cw_nodes (i := 0) (by decide))) rfl hl.1 rfl (Nat.le_of_ble_eq_true rfl) dX8_join_71 (fun H locs hP hS => ?_)
      rw [u3_self] at hP
      obtain ⟨q8, hq8, hf⟩ := obE hf
      refine ct_cVi (rest := []) (tX4_keyOf hD (by decide) hq8) hx hb hml hown ht hX (P_u3 0 hP) hS wX4_keyOf kML_RX8_53 rfl rfl ⟨Nat.le_of_ble_eq_true rfl, Nat.le_of_ble_eq_true rfl⟩ (va_recv hX.1 hP rfl (cw_nodes (i := 0) (by decide))) rfl hl.1 rfl (Nat.le_of_ble_eq_true rfl) dX8_join_74 (fun H locs hP hS => ?_)
      rw [u3_self] at hP
      refine lv_istore_n (lv' := [(3, .int q8), (2, .int (q6 0 6 1)), (0, .ref (ad 160)), (1, .int x1)]) hx hb dX8_join_77 rfl hl (by decide) rfl (fun ls hl => ?_)
      refine lv_aload_n hx hb dX8_join_78 rfl (lv_at hl 2 rfl) ?_
      refine lv_aload_n hx hb dX8_join_79 rfl (lv_at hl 2 rfl) ?_
      refine va_get (ci := 6) (v := .ref (ad 163)) hx hb ht i_X8 hown hX.1 hP 160 cw_ri rfl 3 (by decide) (ht _ kFL_RX8_35) (fun _ h9 => h9) rfl dX8_join_80 ?_
      refine lv_iload_n hx hb dX8_join_83 rfl (lv_at hl 3 rfl) ?_
      obtain ⟨hn9, hf⟩ := ngE _ hf
      have hb10 : x1.toNatClampNeg < 2 := Nat.not_le.mp fun q => hn9 (Or.inr q)
      refine va_aldq hx hb hX.1 hP 163 2 cw_images rfl hn9 dX8_join_84 ?_
      refine W.eq (g2 := F0 m 85 ls [.ref (ad (164 + x1.toNatClampNeg)), .ref (ad 160)]) rfl ?_
      refine va_get (ci := 2) (v := .ref (ad (10 * (14 + x1.toNatClampNeg)))) hx hb ht i_X3 hown hX.1 hP (164 + x1.toNatClampNeg) (cw_img hb10) rfl 0 (by decide) (ht _ kFL_RX8_212) (fun _ h9 => h9) rfl dX8_join_85 ?_
      refine va_get (ci := 5) (v := .ref (ad (10 * (14 + x1.toNatClampNeg) + 1))) hx hb ht i_X7 hown hX.1 hP (10 * (14 + x1.toNatClampNeg)) (cw_tree (i := (14 + x1.toNatClampNeg)) (by have := hb10; omega)) rfl 0 (by decide) (ht _ kFL_RX8_40) (fun _ h9 => h9) rfl dX8_join_88 ?_
      refine lv_iload_n hx hb dX8_join_91 rfl (lv_at hl 0 rfl) ?_
      obtain ⟨q11, hq11, hf⟩ := obE hf
      refine ct_cVv (rest := []) (tX8_addRising hD (by have := hb10; omega) (by omega) hq11) hx hb hml hown ht hX hP hS wX8_addRising kML_RX8_198 rfl rfl ⟨Nat.le_of_ble_eq_true rfl, Nat.le_of_ble_eq_true rfl⟩ (va_recv hX.1 hP rfl cw_ri) rfl hl.1 rfl (Nat.le_of_ble_eq_true rfl) dX8_join_92 (fun H locs hP hS => ?_)
      refine lv_aload_n hx hb dX8_join_95 rfl (lv_at hl 2 rfl) ?_
      refine va_get (ci := 6) (v := .ref (ad (10 * 0))) hx hb ht i_X8 hown hX.1 hP 160 cw_ri rfl 0 (by decide) (ht _ kFL_RX8_10) (fun _ h9 => h9) rfl dX8_join_96 ?_
      refine va_get (ci := 5) (v := .ref (ad (10 * 0 + 1))) hx hb ht i_X7 hown hX.1 hP (10 * 0) (cw_tree (i := 0) (by decide)) rfl 0 (by decide) (ht _ kFL_RX8_40) (fun _ h9 => h9) rfl dX8_join_99 ?_
      refine va_get (ci := 3) (v := .int (q11 0 6 1)) hx hb ht i_X4 hown hX.1 hP (10 * 0 + 1) (cw_nodes (i := 0) (by decide)) rfl 7 (by decide) (ht _ kFL_RX8_44) (fun _ h9 => h9) rfl dX8_join_102 ?_
      refine lv_iload_n hx hb dX8_join_105 rfl (lv_at hl 1 rfl) ?_
      refine lv_isub hx hb dX8_join_106 ?_
      have e0 := Option.some.inj hf
      subst e0
      exact hret _ _ _ _ hP hS dX8_join_107
    · rw [if_pos hc5] at hf
      refine lv_ldc hx hb hown (ht _ kKI_RX8_163) dX8_join_22 ?_
      have e0 := Option.some.inj hf
      subst e0
      exact hret _ _ _ _ hP hS dX8_join_24
  · rw [if_pos hc2] at hf
    refine lv_ldc hx hb hown (ht _ kKI_RX8_114) dX8_join_7 ?_
    have e0 := Option.some.inj hf
    subst e0
    exact hret _ _ _ _ hP hS dX8_join_9
def fX8_driftOnce (F : Nat) (σ : Sig) : Option (Sig) := (fX2_next F σ (3 : Int32)).bind fun q1 => ((fX2_next F q1.2 (200 : Int32)).bind fun q2 => ((fX4_slotOfKey F (q2.2 0) q2.1).bind fun q3 => (if q1.1 = (2 : Int32) then ((fX7_remove F (q2.2 0) q3).bind fun q10 => (some (u3 q2.2 0 q10))) else (if q3 = (-1 : Int32) then ((fX8_hasRoom F q2.2).bind fun q6 => (if q6 = 0 then (some q2.2) else ((fX2_next F q2.2 (100 : Int32)).bind fun q8 => ((fX7_add F (q8.2 0) q2.1 q8.1).bind fun q9 => (some (u3 q8.2 0 q9)))))) else (some q2.2)))))
abbrev rX8_driftOnce : Room := { frames := 5, cells := 0, slots := 0, locals := 123 }
theorem wX8_driftOnce : kV yX8_driftOnce cX8_driftOnce 4 none 0 := ⟨kCO_yX8_driftOnce, kIM_yX8_driftOnce, kSE_yX8_driftOnce, kIN_RX8, by decide +kernel, by decide +kernel, by decide +kernel⟩
set_option maxHeartbeats 4000000 in
set_option maxRecDepth 100000 in
theorem tX8_driftOnce {l : Launch} {D : va_G} {cI cT cM : ClassId} {ad : Nat → Nat} (hD : gInj 167 ad) {F : Nat} {σ : Sig} {res : Sig} (hf : fX8_driftOnce F σ = some res) : CTv l yX8_driftOnce cX8_driftOnce 4 rX8_driftOnce D (cTy cI cT cM) (gA 167 ad) [.ref (ad 160)] (cw cI cT cM ad σ) (cw cI cT cM ad res) := by
  refine ct_void (by decide) (Nat.le_of_ble_eq_true rfl) ?_
  intro p e s m args below meth c Q ls hx hb hml hown ht hX hret hP hS hl
  have hl : lv_has ls 4 [(0, .ref (ad 160))] := hl
  unfold fX8_driftOnce at hf
  refine lv_aload_n hx hb dX8_driftOnce_0 rfl (lv_at hl 0 rfl) ?_
  refine va_get (ci := 6) (v := .ref (ad 166)) hx hb ht i_X8 hown hX.1 hP 160 cw_ri rfl 4 (by decide) (ht _ kFL_RX8_29) (fun _ h9 => h9) rfl dX8_driftOnce_1 ?_
  refine lv_iconst (v := (3 : Int32)) hx hb dX8_driftOnce_4 (by decide) ?_
  obtain ⟨q1, hq1, hf⟩ := obE hf
  refine ct_cVi (rest := []) (tX2_next hD hq1) hx hb hml hown ht hX hP hS wX2_next kML_RX8_247 rfl rfl ⟨Nat.le_of_ble_eq_true rfl, Nat.le_of_ble_eq_true rfl⟩ (va_recv hX.1 hP rfl cw_draws) rfl hl.1 rfl (Nat.le_of_ble_eq_true rfl) dX8_driftOnce_5 (fun H locs hP hS => ?_)
  refine lv_istore_n (lv' := [(1, .int q1.1), (0, .ref (ad 160))]) hx hb dX8_driftOnce_8 rfl hl (by decide) rfl (fun ls hl => ?_)
  refine lv_aload_n hx hb dX8_driftOnce_9 rfl (lv_at hl 1 rfl) ?_
  refine va_get (ci := 6) (v := .ref (ad 166)) hx hb ht i_X8 hown hX.1 hP 160 cw_ri rfl 4 (by decide) (ht _ kFL_RX8_29) (fun _ h9 => h9) rfl dX8_driftOnce_10 ?_
  refine lv_sipush (v := (200 : Int32)) hx hb dX8_driftOnce_13 (by decide) ?_
  obtain ⟨q2, hq2, hf⟩ := obE hf
  refine ct_cVi (rest := []) (tX2_next hD hq2) hx hb hml hown ht hX hP hS wX2_next kML_RX8_247 rfl rfl ⟨Nat.le_of_ble_eq_true rfl, Nat.le_of_ble_eq_true rfl⟩ (va_recv hX.1 hP rfl cw_draws) rfl hl.1 rfl (Nat.le_of_ble_eq_true rfl) dX8_driftOnce_16 (fun H locs hP hS => ?_)
  refine lv_istore_n (lv' := [(2, .int q2.1), (1, .int q1.1), (0, .ref (ad 160))]) hx hb dX8_driftOnce_19 rfl hl (by decide) rfl (fun ls hl => ?_)
  refine lv_aload_n hx hb dX8_driftOnce_20 rfl (lv_at hl 2 rfl) ?_
  refine va_get (ci := 6) (v := .ref (ad (10 * 0))) hx hb ht i_X8 hown hX.1 hP 160 cw_ri rfl 0 (by decide) (ht _ kFL_RX8_10) (fun _ h9 => h9) rfl dX8_driftOnce_21 ?_
  refine va_get (ci := 5) (v := .ref (ad (10 * 0 + 1))) hx hb ht i_X7 hown hX.1 hP (10 * 0) (cw_tree (i := 0) (by decide)) rfl 0 (by decide) (ht _ kFL_RX8_40) (fun _ h9 => h9) rfl dX8_driftOnce_24 ?_
  refine lv_iload_n hx hb dX8_driftOnce_27 rfl (lv_at hl 0 rfl) ?_
  obtain ⟨q3, hq3, hf⟩ := obE hf
  refine ct_cVi (rest := []) (tX4_slotOfKey hD (by decide) hq3) hx hb hml hown ht hX (P_u3 0 hP) hS wX4_slotOfKey kML_RX8_138 rfl rfl ⟨Nat.le_of_ble_eq_true rfl, Nat.le_of_ble_eq_true rfl⟩ (va_recv hX.1 hP rfl (cw_nodes (i := 0) (by decide))) rfl hl.1 rfl (Nat.le_of_ble_eq_true rfl) dX8_driftOnce_28 (fun H locs hP hS => ?_)
  rw [u3_self] at hP
  refine lv_istore_n (lv' := [(3, .int q3), (2, .int q2.1), (1, .int q1.1), (0, .ref (ad 160))]) hx hb dX8_driftOnce_31 rfl hl (by decide) rfl (fun ls hl => ?_)
  refine lv_iload_n hx hb dX8_driftOnce_32 rfl (lv_at hl 2 rfl) ?_
  refine lv_iconst (v := (2 : Int32)) hx hb dX8_driftOnce_33 (by decide) ?_
  refine lv_icmp_ne (tgt := 48) hx hb dX8_driftOnce_34 (by decide) (fun hc4 => ?_) (fun hc4 => ?_)
  · rw [if_neg hc4] at hf
    refine lv_iload_n hx hb dX8_driftOnce_48 rfl (lv_at hl 0 rfl) ?_
    refine lv_iconst (v := (-1 : Int32)) hx hb dX8_driftOnce_49 (by decide) ?_
    refine lv_icmp_ne (tgt := 77) hx hb dX8_driftOnce_50 (by decide) (fun hc5 => ?_) (fun hc5 => ?_)
    · rw [if_neg hc5] at hf
      have e0 := Option.some.inj hf
      subst e0
      exact hret _ _ _ _ hP hS dX8_driftOnce_77
    · rw [if_pos hc5] at hf
      refine lv_aload_n hx hb dX8_driftOnce_53 rfl (lv_at hl 3 rfl) ?_
      obtain ⟨q6, hq6, hf⟩ := obE hf
      refine ct_cVi (rest := []) (tX8_hasRoom hD hq6) hx hb hml hown ht hX hP hS wX8_hasRoom kML_RX8_164 rfl rfl ⟨Nat.le_of_ble_eq_true rfl, Nat.le_of_ble_eq_true rfl⟩ (va_recv hX.1 hP rfl cw_ri) rfl hl.1 rfl (Nat.le_of_ble_eq_true rfl) dX8_driftOnce_54 (fun H locs hP hS => ?_)
      refine lv_if_eq (tgt := 77) hx hb dX8_driftOnce_57 (by decide) (fun hc7 => ?_) (fun hc7 => ?_)
      · rw [if_pos hc7] at hf
        have e0 := Option.some.inj hf
        subst e0
        exact hret _ _ _ _ hP hS dX8_driftOnce_77
      · rw [if_neg hc7] at hf
        refine lv_aload_n hx hb dX8_driftOnce_60 rfl (lv_at hl 3 rfl) ?_
        refine va_get (ci := 6) (v := .ref (ad (10 * 0))) hx hb ht i_X8 hown hX.1 hP 160 cw_ri rfl 0 (by decide) (ht _ kFL_RX8_10) (fun _ h9 => h9) rfl dX8_driftOnce_61 ?_
        refine lv_iload_n hx hb dX8_driftOnce_64 rfl (lv_at hl 1 rfl) ?_
        refine lv_aload_n hx hb dX8_driftOnce_65 rfl (lv_at hl 3 rfl) ?_
        refine va_get (ci := 6) (v := .ref (ad 166)) hx hb ht i_X8 hown hX.1 hP 160 cw_ri rfl 4 (by decide) (ht _ kFL_RX8_29) (fun _ h9 => h9) rfl dX8_driftOnce_66 ?_
        refine lv_bipush (v := (100 : Int32)) hx hb dX8_driftOnce_69 (by decide) ?_
        obtain ⟨q8, hq8, hf⟩ := obE hf
        refine ct_cVi (rest := [.int q2.1, .ref (ad (10 * 0))]) (tX2_next hD hq8) hx hb hml hown ht hX hP hS wX2_next kML_RX8_247 rfl rfl ⟨Nat.le_of_ble_eq_true rfl, Nat.le_of_ble_eq_true rfl⟩ (va_recv hX.1 hP rfl cw_draws) rfl hl.1 rfl (Nat.le_of_ble_eq_true rfl) dX8_driftOnce_71 (fun H locs hP hS => ?_)
        obtain ⟨q9, hq9, hf⟩ := obE hf
        refine ct_cVv (rest := []) (tX7_add hD (by decide) hq9) hx hb hml hown ht hX (P_u3 0 hP) hS wX7_add kML_RX8_173 rfl rfl ⟨Nat.le_of_ble_eq_true rfl, Nat.le_of_ble_eq_true rfl⟩ (va_recv hX.1 hP rfl (cw_tree (i := 0) (by decide))) rfl hl.1 rfl (Nat.le_of_ble_eq_true rfl) dX8_driftOnce_74 (fun H locs hP hS => ?_)
        have e0 := Option.some.inj hf
        subst e0
        exact hret _ _ _ _ hP hS dX8_driftOnce_77
  · rw [if_pos hc4] at hf
    refine lv_aload_n hx hb dX8_driftOnce_37 rfl (lv_at hl 3 rfl) ?_
    refine va_get (ci := 6) (v := .ref (ad (10 * 0))) hx hb ht i_X8 hown hX.1 hP 160 cw_ri rfl 0 (by decide) (ht _ kFL_RX8_10) (fun _ h9 => h9) rfl dX8_driftOnce_38 ?_
    refine lv_iload_n hx hb dX8_driftOnce_41 rfl (lv_at hl 0 rfl) ?_
    obtain ⟨q10, hq10, hf⟩ := obE hf
    refine ct_cVv (rest := []) (tX7_remove hD (by decide) hq10) hx hb hml hown ht hX (P_u3 0 hP) hS wX7_remove kML_RX8_177 rfl rfl ⟨Nat.le_of_ble_eq_true rfl, Nat.le_of_ble_eq_true rfl⟩ (va_recv hX.1 hP rfl (cw_tree (i := 0) (by decide))) rfl hl.1 rfl (Nat.le_of_ble_eq_true rfl) dX8_driftOnce_42 (fun H locs hP hS => ?_)
    refine lv_goto (tgt := 77) hx hb dX8_driftOnce_45 (by decide) ?_
    have e0 := Option.some.inj hf
    subst e0
    exact hret _ _ _ _ hP hS dX8_driftOnce_77
def fX8_drift_15 (F : Nat) : Nat → Sig → Int32 → Int32 → Option (Int32 × Sig)
  | 0, _, _, _ => none
  | n + 1, σ, x1, x2 => if x1 ≤ x2 then (some (σ 0 6 1, σ)) else ((fX5_remember F σ).bind fun q4 => ((fX8_driftOnce F q4).bind fun q5 => (fX8_drift_15 F n q5 x1 (x2 + (1 : Int32)))))
def fX8_drift (F : Nat) (σ : Sig) (x1 : Int32) : Option (Int32 × Sig) := (fX8_isWithin F x1 (1 : Int32) (12 : Int32)).bind fun q1 => (if q1 = 0 then (some ((-1000000002 : Int32), σ)) else (fX8_drift_15 F F σ x1 (0 : Int32)))
abbrev rX8_drift : Room := { frames := 6, cells := 0, slots := 0, locals := 146 }
theorem wX8_drift : kV yX8_drift cX8_drift 3 (some .int) 1 := ⟨kCO_yX8_drift, kIM_yX8_drift, kSE_yX8_drift, kIN_RX8, by decide +kernel, by decide +kernel, by decide +kernel⟩
set_option maxHeartbeats 4000000 in
set_option maxRecDepth 100000 in
theorem tX8_drift {l : Launch} {D : va_G} {cI cT cM : ClassId} {ad : Nat → Nat} (hD : gInj 167 ad) {F : Nat} {σ : Sig} {x1 : Int32} {res : Int32 × Sig} (hf : fX8_drift F σ x1 = some res) : CTi l yX8_drift cX8_drift 3 .int rX8_drift D (cTy cI cT cM) (gA 167 ad) [.ref (ad 160), .int x1] (cw cI cT cM ad σ) res.1 (cw cI cT cM ad res.2) := by
  refine ct_int (by decide) (Nat.le_of_ble_eq_true rfl) ?_
  intro p e s m args below meth c Q ls hx hb hml hown ht hX hret hP hS hl
  have hl : lv_has ls 3 [(0, .ref (ad 160)), (1, .int x1)] := hl
  have blk15 : ∀ (n15 : Nat) (H : Heap) (locs : List Loc) (σ : Sig) (x1 : Int32) (x2 : Int32) (ls : Array Slot), va_P D vwCl (cw cI cT cM ad σ) H → va_S (gA 167 ad) s.heap H locs → lv_has ls 3 [(0, .ref (ad 160)), (1, .int x1), (2, .int x2)] → fX8_drift_15 F n15 σ x1 x2 = some res → W p l e rX8_drift s m args below meth c H locs 0 0 Q (F0 m 15 ls []) := by
    intro n15
    induction n15 with
    | zero =>
      intro H locs σ x1 x2 ls hP hS hl hf
      rw [fX8_drift_15] at hf
      cases hf
    | succ n15 ih15 =>
      skip
      intro H locs σ x1 x2 ls hP hS hl hf
      rw [fX8_drift_15] at hf
      refine lv_iload_n hx hb dX8_drift_15 rfl (lv_at hl 2 rfl) ?_
      refine lv_iload_n hx hb dX8_drift_16 rfl (lv_at hl 1 rfl) ?_
      refine lv_icmp_ge (tgt := 41) hx hb dX8_drift_17 (by decide) (fun hc3 => ?_) (fun hc3 => ?_)
      · rw [if_pos hc3] at hf
        refine lv_aload_n hx hb dX8_drift_41 rfl (lv_at hl 0 rfl) ?_
        refine va_get (ci := 6) (v := .ref (ad (10 * 0))) hx hb ht i_X8 hown hX.1 hP 160 cw_ri rfl 0 (by decide) (ht _ kFL_RX8_10) (fun _ h9 => h9) rfl dX8_drift_42 ?_
        refine va_get (ci := 5) (v := .ref (ad (10 * 0 + 1))) hx hb ht i_X7 hown hX.1 hP (10 * 0) (cw_tree (i := 0) (by decide)) rfl 0 (by decide) (ht _ kFL_RX8_40) (fun _ h9 => h9) rfl dX8_drift_45 ?_
        refine va_get (ci := 3) (v := .int (σ 0 6 1)) hx hb ht i_X4 hown hX.1 hP (10 * 0 + 1) (cw_nodes (i := 0) (by decide)) rfl 7 (by decide) (ht _ kFL_RX8_44) (fun _ h9 => h9) rfl dX8_drift_48 ?_
        have e0 := Option.some.inj hf
        subst e0
        exact hret _ _ _ _ hP hS dX8_drift_51
      · rw [if_neg hc3] at hf
        refine lv_aload_n hx hb dX8_drift_20 rfl (lv_at hl 0 rfl) ?_
        refine va_get (ci := 6) (v := .ref (ad 161)) hx hb ht i_X8 hown hX.1 hP 160 cw_ri rfl 2 (by decide) (ht _ kFL_RX8_22) (fun _ h9 => h9) rfl dX8_drift_21 ?_
        refine lv_aload_n hx hb dX8_drift_24 rfl (lv_at hl 0 rfl) ?_
        refine va_get (ci := 6) (v := .ref (ad (10 * 0))) hx hb ht i_X8 hown hX.1 hP 160 cw_ri rfl 0 (by decide) (ht _ kFL_RX8_10) (fun _ h9 => h9) rfl dX8_drift_25 ?_
        obtain ⟨q4, hq4, hf⟩ := obE hf
        refine ct_cVv (rest := []) (tX5_remember hD hq4) hx hb hml hown ht hX hP hS wX5_remember kML_RX8_169 rfl rfl ⟨Nat.le_of_ble_eq_true rfl, Nat.le_of_ble_eq_true rfl⟩ (va_recv hX.1 hP rfl cw_past) rfl hl.1 rfl (Nat.le_of_ble_eq_true rfl) dX8_drift_28 (fun H locs hP hS => ?_)
        refine lv_aload_n hx hb dX8_drift_31 rfl (lv_at hl 0 rfl) ?_
        obtain ⟨q5, hq5, hf⟩ := obE hf
        refine ct_cVv (rest := []) (tX8_driftOnce hD hq5) hx hb hml hown ht hX hP hS wX8_driftOnce kML_RX8_213 rfl rfl ⟨Nat.le_of_ble_eq_true rfl, Nat.le_of_ble_eq_true rfl⟩ (va_recv hX.1 hP rfl cw_ri) rfl hl.1 rfl (Nat.le_of_ble_eq_true rfl) dX8_drift_32 (fun H locs hP hS => ?_)
        refine lv_iinc (v := x2 + (1 : Int32)) (lv' := [(2, .int (x2 + (1 : Int32))), (0, .ref (ad 160)), (1, .int x1)]) hx hb dX8_drift_35 hl (k := 2) rfl rfl (by decide) rfl (fun ls hl => ?_)
        refine lv_goto (tgt := 15) hx hb dX8_drift_38 (by decide) ?_
        exact ih15 _ _ q5 x1 (x2 + (1 : Int32)) ls hP hS (lv_sub hl [1, 2, 0] rfl) hf
  unfold fX8_drift at hf
  refine lv_iload_n hx hb dX8_drift_0 rfl (lv_at hl 1 rfl) ?_
  refine lv_iconst (v := (1 : Int32)) hx hb dX8_drift_1 (by decide) ?_
  refine lv_bipush (v := (12 : Int32)) hx hb dX8_drift_2 (by decide) ?_
  obtain ⟨q1, hq1, hf⟩ := obE hf
  refine ct_cSi (rest := []) (tX8_isWithin hD hq1) hx hb hml hown ht hX hP hS wX8_isWithin kML_RX8_185 rfl rfl ⟨Nat.le_of_ble_eq_true rfl, Nat.le_of_ble_eq_true rfl⟩ rfl hl.1 rfl (Nat.le_of_ble_eq_true rfl) dX8_drift_4 (fun H locs hP hS => ?_)
  refine lv_if_ne (tgt := 13) hx hb dX8_drift_7 (by decide) (fun hc2 => ?_) (fun hc2 => ?_)
  · rw [if_neg hc2] at hf
    refine lv_iconst (v := (0 : Int32)) hx hb dX8_drift_13 (by decide) ?_
    refine lv_istore_n (lv' := [(2, .int ((0 : Int32))), (0, .ref (ad 160)), (1, .int x1)]) hx hb dX8_drift_14 rfl hl (by decide) rfl (fun ls hl => ?_)
    exact blk15 F _ _ σ x1 (0 : Int32) ls hP hS (lv_sub hl [1, 2, 0] rfl) hf
  · rw [if_pos hc2] at hf
    refine lv_ldc hx hb hown (ht _ kKI_RX8_110) dX8_drift_10 ?_
    have e0 := Option.some.inj hf
    subst e0
    exact hret _ _ _ _ hP hS dX8_drift_12
def fX8_undo (F : Nat) (σ : Sig) (x1 : Int32) : Option (Int32 × Sig) := (fX8_isWithin F x1 (1 : Int32) (12 : Int32)).bind fun q1 => (if q1 = 0 then (some ((-1000000002 : Int32), σ)) else (if x1 ≤ (σ 16 0 1) then ((fX5_restore F σ x1).bind fun q4 => (some (q4 0 6 1, q4))) else (some ((-1000000003 : Int32), σ))))
abbrev rX8_undo : Room := { frames := 4, cells := 0, slots := 0, locals := 125 }
theorem wX8_undo : kV yX8_undo cX8_undo 2 (some .int) 1 := ⟨kCO_yX8_undo, kIM_yX8_undo, kSE_yX8_undo, kIN_RX8, by decide +kernel, by decide +kernel, by decide +kernel⟩
set_option maxHeartbeats 4000000 in
set_option maxRecDepth 100000 in
theorem tX8_undo {l : Launch} {D : va_G} {cI cT cM : ClassId} {ad : Nat → Nat} (hD : gInj 167 ad) {F : Nat} {σ : Sig} {x1 : Int32} {res : Int32 × Sig} (hf : fX8_undo F σ x1 = some res) : CTi l yX8_undo cX8_undo 2 .int rX8_undo D (cTy cI cT cM) (gA 167 ad) [.ref (ad 160), .int x1] (cw cI cT cM ad σ) res.1 (cw cI cT cM ad res.2) := by
  refine ct_int (by decide) (Nat.le_of_ble_eq_true rfl) ?_
  intro p e s m args below meth c Q ls hx hb hml hown ht hX hret hP hS hl
  have hl : lv_has ls 2 [(0, .ref (ad 160)), (1, .int x1)] := hl
  unfold fX8_undo at hf
  refine lv_iload_n hx hb dX8_undo_0 rfl (lv_at hl 1 rfl) ?_
  refine lv_iconst (v := (1 : Int32)) hx hb dX8_undo_1 (by decide) ?_
  refine lv_bipush (v := (12 : Int32)) hx hb dX8_undo_2 (by decide) ?_
  obtain ⟨q1, hq1, hf⟩ := obE hf
  refine ct_cSi (rest := []) (tX8_isWithin hD hq1) hx hb hml hown ht hX hP hS wX8_isWithin kML_RX8_185 rfl rfl ⟨Nat.le_of_ble_eq_true rfl, Nat.le_of_ble_eq_true rfl⟩ rfl hl.1 rfl (Nat.le_of_ble_eq_true rfl) dX8_undo_4 (fun H locs hP hS => ?_)
  refine lv_if_ne (tgt := 13) hx hb dX8_undo_7 (by decide) (fun hc2 => ?_) (fun hc2 => ?_)
  · rw [if_neg hc2] at hf
    refine lv_iload_n hx hb dX8_undo_13 rfl (lv_at hl 1 rfl) ?_
    refine lv_aload_n hx hb dX8_undo_14 rfl (lv_at hl 0 rfl) ?_
    refine va_get (ci := 6) (v := .ref (ad 161)) hx hb ht i_X8 hown hX.1 hP 160 cw_ri rfl 2 (by decide) (ht _ kFL_RX8_22) (fun _ h9 => h9) rfl dX8_undo_15 ?_
    refine va_get (ci := 4) (v := .int (σ 16 0 1)) hx hb ht i_X5 hown hX.1 hP 161 cw_past rfl 2 (by decide) (ht _ kFL_RX8_107) (fun _ h9 => h9) rfl dX8_undo_18 ?_
    refine lv_icmp_le (tgt := 27) hx hb dX8_undo_21 (by decide) (fun hc3 => ?_) (fun hc3 => ?_)
    · rw [if_pos hc3] at hf
      refine lv_aload_n hx hb dX8_undo_27 rfl (lv_at hl 0 rfl) ?_
      refine va_get (ci := 6) (v := .ref (ad 161)) hx hb ht i_X8 hown hX.1 hP 160 cw_ri rfl 2 (by decide) (ht _ kFL_RX8_22) (fun _ h9 => h9) rfl dX8_undo_28 ?_
      refine lv_aload_n hx hb dX8_undo_31 rfl (lv_at hl 0 rfl) ?_
      refine va_get (ci := 6) (v := .ref (ad (10 * 0))) hx hb ht i_X8 hown hX.1 hP 160 cw_ri rfl 0 (by decide) (ht _ kFL_RX8_10) (fun _ h9 => h9) rfl dX8_undo_32 ?_
      refine lv_iload_n hx hb dX8_undo_35 rfl (lv_at hl 1 rfl) ?_
      obtain ⟨q4, hq4, hf⟩ := obE hf
      refine ct_cVv (rest := []) (tX5_restore hD hq4) hx hb hml hown ht hX hP hS wX5_restore kML_RX8_216 rfl rfl ⟨Nat.le_of_ble_eq_true rfl, Nat.le_of_ble_eq_true rfl⟩ (va_recv hX.1 hP rfl cw_past) rfl hl.1 rfl (Nat.le_of_ble_eq_true rfl) dX8_undo_36 (fun H locs hP hS => ?_)
      refine lv_aload_n hx hb dX8_undo_39 rfl (lv_at hl 0 rfl) ?_
      refine va_get (ci := 6) (v := .ref (ad (10 * 0))) hx hb ht i_X8 hown hX.1 hP 160 cw_ri rfl 0 (by decide) (ht _ kFL_RX8_10) (fun _ h9 => h9) rfl dX8_undo_40 ?_
      refine va_get (ci := 5) (v := .ref (ad (10 * 0 + 1))) hx hb ht i_X7 hown hX.1 hP (10 * 0) (cw_tree (i := 0) (by decide)) rfl 0 (by decide) (ht _ kFL_RX8_40) (fun _ h9 => h9) rfl dX8_undo_43 ?_
      refine va_get (ci := 3) (v := .int (q4 0 6 1)) hx hb ht i_X4 hown hX.1 hP (10 * 0 + 1) (cw_nodes (i := 0) (by decide)) rfl 7 (by decide) (ht _ kFL_RX8_44) (fun _ h9 => h9) rfl dX8_undo_46 ?_
      have e0 := Option.some.inj hf
      subst e0
      exact hret _ _ _ _ hP hS dX8_undo_49
    · rw [if_neg hc3] at hf
      refine lv_ldc hx hb hown (ht _ kKI_RX8_163) dX8_undo_24 ?_
      have e0 := Option.some.inj hf
      subst e0
      exact hret _ _ _ _ hP hS dX8_undo_26
  · rw [if_pos hc2] at hf
    refine lv_ldc hx hb hown (ht _ kKI_RX8_110) dX8_undo_10 ?_
    have e0 := Option.some.inj hf
    subst e0
    exact hret _ _ _ _ hP hS dX8_undo_12
def fX8_less (F : Nat) (σ : Sig) (x1 : Int32) : Option (Int32) := (fX6_howManyLess F (σ 0) x1).bind fun q1 => (some q1)
abbrev rX8_less : Room := { frames := 2, cells := 0, slots := 0, locals := 44 }
theorem wX8_less : kV yX8_less cX8_less 2 (some .int) 1 := ⟨kCO_yX8_less, kIM_yX8_less, kSE_yX8_less, kIN_RX8, by decide +kernel, by decide +kernel, by decide +kernel⟩
set_option maxHeartbeats 4000000 in
set_option maxRecDepth 100000 in
theorem tX8_less {l : Launch} {D : va_G} {cI cT cM : ClassId} {ad : Nat → Nat} (hD : gInj 167 ad) {F : Nat} {σ : Sig} {x1 : Int32} {res : Int32} (hf : fX8_less F σ x1 = some res) : CTi l yX8_less cX8_less 2 .int rX8_less D (cTy cI cT cM) (gA 167 ad) [.ref (ad 160), .int x1] (cw cI cT cM ad σ) res (cw cI cT cM ad σ) := by
  refine ct_int (by decide) (Nat.le_of_ble_eq_true rfl) ?_
  intro p e s m args below meth c Q ls hx hb hml hown ht hX hret hP hS hl
  have hl : lv_has ls 2 [(0, .ref (ad 160)), (1, .int x1)] := hl
  unfold fX8_less at hf
  refine lv_aload_n hx hb dX8_less_0 rfl (lv_at hl 0 rfl) ?_
  refine va_get (ci := 6) (v := .ref (ad (10 * 0))) hx hb ht i_X8 hown hX.1 hP 160 cw_ri rfl 0 (by decide) (ht _ kFL_RX8_10) (fun _ h9 => h9) rfl dX8_less_1 ?_
  refine va_get (ci := 5) (v := .ref (ad (10 * 0 + 1))) hx hb ht i_X7 hown hX.1 hP (10 * 0) (cw_tree (i := 0) (by decide)) rfl 0 (by decide) (ht _ kFL_RX8_40) (fun _ h9 => h9) rfl dX8_less_4 ?_
  refine lv_iload_n hx hb dX8_less_7 rfl (lv_at hl 1 rfl) ?_
  obtain ⟨q1, hq1, hf⟩ := obE hf
  refine ct_cSi (rest := []) (tX6_howManyLess hD (by decide) hq1) hx hb hml hown ht hX (P_u3 0 hP) hS wX6_howManyLess kML_RX8_144 rfl rfl ⟨Nat.le_of_ble_eq_true rfl, Nat.le_of_ble_eq_true rfl⟩ rfl hl.1 rfl (Nat.le_of_ble_eq_true rfl) dX8_less_8 (fun H locs hP hS => ?_)
  rw [u3_self] at hP
  have e0 := Option.some.inj hf
  subst e0
  exact hret _ _ _ _ hP hS dX8_less_11
def fX8_beside (F : Nat) (σ : Sig) (x1 : Int32) (x2 : Int32) : Option (Int32) := if x2 = (0 : Int32) then ((fX6_greatestLess F (σ 0) x1).bind fun q1 => (some q1)) else (if x2 = (1 : Int32) then ((fX6_leastGreater F (σ 0) x1).bind fun q2 => (some q2)) else (some (-1000000002 : Int32)))
abbrev rX8_beside : Room := { frames := 2, cells := 0, slots := 0, locals := 47 }
theorem wX8_beside : kV yX8_beside cX8_beside 3 (some .int) 2 := ⟨kCO_yX8_beside, kIM_yX8_beside, kSE_yX8_beside, kIN_RX8, by decide +kernel, by decide +kernel, by decide +kernel⟩
set_option maxHeartbeats 4000000 in
set_option maxRecDepth 100000 in
theorem tX8_beside {l : Launch} {D : va_G} {cI cT cM : ClassId} {ad : Nat → Nat} (hD : gInj 167 ad) {F : Nat} {σ : Sig} {x1 : Int32} {x2 : Int32} {res : Int32} (hf : fX8_beside F σ x1 x2 = some res) : CTi l yX8_beside cX8_beside 3 .int rX8_beside D (cTy cI cT cM) (gA 167 ad) [.ref (ad 160), .int x1, .int x2] (cw cI cT cM ad σ) res (cw cI cT cM ad σ) := by
  refine ct_int (by decide) (Nat.le_of_ble_eq_true rfl) ?_
  intro p e s m args below meth c Q ls hx hb hml hown ht hX hret hP hS hl
  have hl : lv_has ls 3 [(0, .ref (ad 160)), (1, .int x1), (2, .int x2)] := hl
  unfold fX8_beside at hf
  refine lv_iload_n hx hb dX8_beside_0 rfl (lv_at hl 2 rfl) ?_
  by_cases hs0 : x2 = (0 : Int32)
  · rw [if_pos hs0] at hf
    refine lv_lookup (off := 27) (tgt := 28) hx hb dX8_beside_1 (by decide) (by rw [hs0]; rfl) (by decide) ?_
    refine lv_aload_n hx hb dX8_beside_28 rfl (lv_at hl 0 rfl) ?_
    refine va_get (ci := 6) (v := .ref (ad (10 * 0))) hx hb ht i_X8 hown hX.1 hP 160 cw_ri rfl 0 (by decide) (ht _ kFL_RX8_10) (fun _ h9 => h9) rfl dX8_beside_29 ?_
    refine va_get (ci := 5) (v := .ref (ad (10 * 0 + 1))) hx hb ht i_X7 hown hX.1 hP (10 * 0) (cw_tree (i := 0) (by decide)) rfl 0 (by decide) (ht _ kFL_RX8_40) (fun _ h9 => h9) rfl dX8_beside_32 ?_
    refine lv_iload_n hx hb dX8_beside_35 rfl (lv_at hl 1 rfl) ?_
    obtain ⟨q1, hq1, hf⟩ := obE hf
    refine ct_cSi (rest := []) (tX6_greatestLess hD (by decide) hq1) hx hb hml hown ht hX (P_u3 0 hP) hS wX6_greatestLess kML_RX8_220 rfl rfl ⟨Nat.le_of_ble_eq_true rfl, Nat.le_of_ble_eq_true rfl⟩ rfl hl.1 rfl (Nat.le_of_ble_eq_true rfl) dX8_beside_36 (fun H locs hP hS => ?_)
    rw [u3_self] at hP
    have e0 := Option.some.inj hf
    subst e0
    exact hret _ _ _ _ hP hS dX8_beside_39
  · rw [if_neg hs0] at hf
    by_cases hs1 : x2 = (1 : Int32)
    · rw [if_pos hs1] at hf
      refine lv_lookup (off := 39) (tgt := 40) hx hb dX8_beside_1 (by decide) (by rw [hs1]; rfl) (by decide) ?_
      refine lv_aload_n hx hb dX8_beside_40 rfl (lv_at hl 0 rfl) ?_
      refine va_get (ci := 6) (v := .ref (ad (10 * 0))) hx hb ht i_X8 hown hX.1 hP 160 cw_ri rfl 0 (by decide) (ht _ kFL_RX8_10) (fun _ h9 => h9) rfl dX8_beside_41 ?_
      refine va_get (ci := 5) (v := .ref (ad (10 * 0 + 1))) hx hb ht i_X7 hown hX.1 hP (10 * 0) (cw_tree (i := 0) (by decide)) rfl 0 (by decide) (ht _ kFL_RX8_40) (fun _ h9 => h9) rfl dX8_beside_44 ?_
      refine lv_iload_n hx hb dX8_beside_47 rfl (lv_at hl 1 rfl) ?_
      obtain ⟨q2, hq2, hf⟩ := obE hf
      refine ct_cSi (rest := []) (tX6_leastGreater hD (by decide) hq2) hx hb hml hown ht hX (P_u3 0 hP) hS wX6_leastGreater kML_RX8_223 rfl rfl ⟨Nat.le_of_ble_eq_true rfl, Nat.le_of_ble_eq_true rfl⟩ rfl hl.1 rfl (Nat.le_of_ble_eq_true rfl) dX8_beside_48 (fun H locs hP hS => ?_)
      rw [u3_self] at hP
      have e0 := Option.some.inj hf
      subst e0
      exact hret _ _ _ _ hP hS dX8_beside_51
    · rw [if_neg hs1] at hf
      refine lv_lookup (off := 51) (tgt := 52) hx hb dX8_beside_1 (by decide) ((lv_osw hs0 rfl).trans ((lv_osw hs1 rfl).trans rfl)) (by decide) ?_
      refine lv_ldc hx hb hown (ht _ kKI_RX8_110) dX8_beside_52 ?_
      have e0 := Option.some.inj hf
      subst e0
      exact hret _ _ _ _ hP hS dX8_beside_54
def fX8_between (F : Nat) (σ : Sig) (x1 : Int32) (x2 : Int32) (x3 : Int32) : Option (Int32) := if x3 = (0 : Int32) then ((fX6_howManyFrom F (σ 0) x1 x2).bind fun q1 => (some q1)) else (if x3 = (1 : Int32) then ((fX6_worthFrom F (σ 0) x1 x2).bind fun q2 => (some q2)) else (if x3 = (2 : Int32) then ((fX6_mostWorthFrom F (σ 0) x1 x2).bind fun q3 => (some q3)) else (some (-1000000002 : Int32))))
abbrev rX8_between : Room := { frames := 3, cells := 0, slots := 0, locals := 69 }
theorem wX8_between : kV yX8_between cX8_between 4 (some .int) 3 := ⟨kCO_yX8_between, kIM_yX8_between, kSE_yX8_between, kIN_RX8, by decide +kernel, by decide +kernel, by decide +kernel⟩
set_option maxHeartbeats 4000000 in
set_option maxRecDepth 100000 in
theorem tX8_between {l : Launch} {D : va_G} {cI cT cM : ClassId} {ad : Nat → Nat} (hD : gInj 167 ad) {F : Nat} {σ : Sig} {x1 : Int32} {x2 : Int32} {x3 : Int32} {res : Int32} (hf : fX8_between F σ x1 x2 x3 = some res) : CTi l yX8_between cX8_between 4 .int rX8_between D (cTy cI cT cM) (gA 167 ad) [.ref (ad 160), .int x1, .int x2, .int x3] (cw cI cT cM ad σ) res (cw cI cT cM ad σ) := by
  refine ct_int (by decide) (Nat.le_of_ble_eq_true rfl) ?_
  intro p e s m args below meth c Q ls hx hb hml hown ht hX hret hP hS hl
  have hl : lv_has ls 4 [(0, .ref (ad 160)), (1, .int x1), (2, .int x2), (3, .int x3)] := hl
  unfold fX8_between at hf
  refine lv_iload_n hx hb dX8_between_0 rfl (lv_at hl 3 rfl) ?_
  by_cases hs0 : x3 = (0 : Int32)
  · rw [if_pos hs0] at hf
    refine lv_tableIn (off := 27) (tgt := 28) hx hb dX8_between_1 (by rw [hs0]; decide) (by rw [hs0]; decide) (by rw [hs0]; rfl) (by decide) ?_
    refine lv_aload_n hx hb dX8_between_28 rfl (lv_at hl 0 rfl) ?_
    refine va_get (ci := 6) (v := .ref (ad (10 * 0))) hx hb ht i_X8 hown hX.1 hP 160 cw_ri rfl 0 (by decide) (ht _ kFL_RX8_10) (fun _ h9 => h9) rfl dX8_between_29 ?_
    refine va_get (ci := 5) (v := .ref (ad (10 * 0 + 1))) hx hb ht i_X7 hown hX.1 hP (10 * 0) (cw_tree (i := 0) (by decide)) rfl 0 (by decide) (ht _ kFL_RX8_40) (fun _ h9 => h9) rfl dX8_between_32 ?_
    refine lv_iload_n hx hb dX8_between_35 rfl (lv_at hl 1 rfl) ?_
    refine lv_iload_n hx hb dX8_between_36 rfl (lv_at hl 2 rfl) ?_
    obtain ⟨q1, hq1, hf⟩ := obE hf
    refine ct_cSi (rest := []) (tX6_howManyFrom hD (by decide) hq1) hx hb hml hown ht hX (P_u3 0 hP) hS wX6_howManyFrom kML_RX8_226 rfl rfl ⟨Nat.le_of_ble_eq_true rfl, Nat.le_of_ble_eq_true rfl⟩ rfl hl.1 rfl (Nat.le_of_ble_eq_true rfl) dX8_between_37 (fun H locs hP hS => ?_)
    rw [u3_self] at hP
    have e0 := Option.some.inj hf
    subst e0
    exact hret _ _ _ _ hP hS dX8_between_40
  · rw [if_neg hs0] at hf
    by_cases hs1 : x3 = (1 : Int32)
    · rw [if_pos hs1] at hf
      refine lv_tableIn (off := 40) (tgt := 41) hx hb dX8_between_1 (by rw [hs1]; decide) (by rw [hs1]; decide) (by rw [hs1]; rfl) (by decide) ?_
      refine lv_aload_n hx hb dX8_between_41 rfl (lv_at hl 0 rfl) ?_
      refine va_get (ci := 6) (v := .ref (ad (10 * 0))) hx hb ht i_X8 hown hX.1 hP 160 cw_ri rfl 0 (by decide) (ht _ kFL_RX8_10) (fun _ h9 => h9) rfl dX8_between_42 ?_
      refine va_get (ci := 5) (v := .ref (ad (10 * 0 + 1))) hx hb ht i_X7 hown hX.1 hP (10 * 0) (cw_tree (i := 0) (by decide)) rfl 0 (by decide) (ht _ kFL_RX8_40) (fun _ h9 => h9) rfl dX8_between_45 ?_
      refine lv_iload_n hx hb dX8_between_48 rfl (lv_at hl 1 rfl) ?_
      refine lv_iload_n hx hb dX8_between_49 rfl (lv_at hl 2 rfl) ?_
      obtain ⟨q2, hq2, hf⟩ := obE hf
      refine ct_cSi (rest := []) (tX6_worthFrom hD (by decide) hq2) hx hb hml hown ht hX (P_u3 0 hP) hS wX6_worthFrom kML_RX8_67 rfl rfl ⟨Nat.le_of_ble_eq_true rfl, Nat.le_of_ble_eq_true rfl⟩ rfl hl.1 rfl (Nat.le_of_ble_eq_true rfl) dX8_between_50 (fun H locs hP hS => ?_)
      rw [u3_self] at hP
      have e0 := Option.some.inj hf
      subst e0
      exact hret _ _ _ _ hP hS dX8_between_53
    · rw [if_neg hs1] at hf
      by_cases hs2 : x3 = (2 : Int32)
      · rw [if_pos hs2] at hf
        refine lv_tableIn (off := 53) (tgt := 54) hx hb dX8_between_1 (by rw [hs2]; decide) (by rw [hs2]; decide) (by rw [hs2]; rfl) (by decide) ?_
        refine lv_aload_n hx hb dX8_between_54 rfl (lv_at hl 0 rfl) ?_
        refine va_get (ci := 6) (v := .ref (ad (10 * 0))) hx hb ht i_X8 hown hX.1 hP 160 cw_ri rfl 0 (by decide) (ht _ kFL_RX8_10) (fun _ h9 => h9) rfl dX8_between_55 ?_
        refine va_get (ci := 5) (v := .ref (ad (10 * 0 + 1))) hx hb ht i_X7 hown hX.1 hP (10 * 0) (cw_tree (i := 0) (by decide)) rfl 0 (by decide) (ht _ kFL_RX8_40) (fun _ h9 => h9) rfl dX8_between_58 ?_
        refine lv_iload_n hx hb dX8_between_61 rfl (lv_at hl 1 rfl) ?_
        refine lv_iload_n hx hb dX8_between_62 rfl (lv_at hl 2 rfl) ?_
        obtain ⟨q3, hq3, hf⟩ := obE hf
        refine ct_cSi (rest := []) (tX6_mostWorthFrom hD (by decide) hq3) hx hb hml hown ht hX (P_u3 0 hP) hS wX6_mostWorthFrom kML_RX8_229 rfl rfl ⟨Nat.le_of_ble_eq_true rfl, Nat.le_of_ble_eq_true rfl⟩ rfl hl.1 rfl (Nat.le_of_ble_eq_true rfl) dX8_between_63 (fun H locs hP hS => ?_)
        rw [u3_self] at hP
        have e0 := Option.some.inj hf
        subst e0
        exact hret _ _ _ _ hP hS dX8_between_66
      · rw [if_neg hs2] at hf
        have hz0 : ¬ (x3).toInt = 0 := lv_neT hs0 (by decide)
        have hz1 : ¬ (x3).toInt = 1 := lv_neT hs1 (by decide)
        have hz2 : ¬ (x3).toInt = 2 := lv_neT hs2 (by decide)
        refine lv_tableOut (tgt := 67) hx hb dX8_between_1 (by omega) (by decide) ?_
        refine lv_ldc hx hb hown (ht _ kKI_RX8_110) dX8_between_67 ?_
        have e0 := Option.some.inj hf
        subst e0
        exact hret _ _ _ _ hP hS dX8_between_69
def fX8_way_48 (F : Nat) (σ : Sig) : Nat → Int32 → Int32 → Int32 → Option (Int32)
  | 0, _, _, _ => none
  | n + 1, x2, x4, x6 => if x6 ≤ x2 then ((fX4_keyOf F (σ 0) x4).bind fun q7 => (some q7)) else ((fX4_parentOf F (σ 0) x4).bind fun q8 => (fX8_way_48 F σ n x2 q8 (x6 + (-1 : Int32))))
def fX8_way (F : Nat) (σ : Sig) (x1 : Int32) (x2 : Int32) : Option (Int32) := (fX4_slotOfKey F (σ 0) x1).bind fun q1 => (if q1 = (-1 : Int32) then (some (-1000000001 : Int32)) else ((fX4_howManyAbove F (σ 0) q1).bind fun q3 => (if x2 < 0 then (some (-1 : Int32)) else (if x2 ≤ q3 then (fX8_way_48 F σ F x2 q1 q3) else (some (-1 : Int32))))))
abbrev rX8_way : Room := { frames := 2, cells := 0, slots := 0, locals := 45 }
theorem wX8_way : kV yX8_way cX8_way 7 (some .int) 2 := ⟨kCO_yX8_way, kIM_yX8_way, kSE_yX8_way, kIN_RX8, by decide +kernel, by decide +kernel, by decide +kernel⟩
set_option maxHeartbeats 4000000 in
set_option maxRecDepth 100000 in
theorem tX8_way {l : Launch} {D : va_G} {cI cT cM : ClassId} {ad : Nat → Nat} (hD : gInj 167 ad) {F : Nat} {σ : Sig} {x1 : Int32} {x2 : Int32} {res : Int32} (hf : fX8_way F σ x1 x2 = some res) : CTi l yX8_way cX8_way 7 .int rX8_way D (cTy cI cT cM) (gA 167 ad) [.ref (ad 160), .int x1, .int x2] (cw cI cT cM ad σ) res (cw cI cT cM ad σ) := by
  refine ct_int (by decide) (Nat.le_of_ble_eq_true rfl) ?_
  intro p e s m args below meth c Q ls hx hb hml hown ht hX hret hP hS hl
  have hl : lv_has ls 7 [(0, .ref (ad 160)), (1, .int x1), (2, .int x2)] := hl
  have blk48 : ∀ (n48 : Nat) (H : Heap) (locs : List Loc) (x2 : Int32) (x4 : Int32) (x6 : Int32) (ls : Array Slot), va_P D vwCl (cw cI cT cM ad σ) H → va_S (gA 167 ad) s.heap H locs → lv_has ls 7 [(2, .int x2), (3, .ref (ad (10 * 0 + 1))), (4, .int x4), (6, .int x6)] → fX8_way_48 F σ n48 x2 x4 x6 = some res → W p l e rX8_way s m args below meth c H locs 0 0 Q (F0 m 48 ls []) := by
    intro n48
    induction n48 with
    | zero =>
      intro H locs x2 x4 x6 ls hP hS hl hf
      rw [fX8_way_48] at hf
      cases hf
    | succ n48 ih48 =>
      skip
      intro H locs x2 x4 x6 ls hP hS hl hf
      rw [fX8_way_48] at hf
      refine lv_iload hx hb dX8_way_48 (lv_at hl 3 rfl) ?_
      refine lv_iload_n hx hb dX8_way_50 rfl (lv_at hl 0 rfl) ?_
      refine lv_icmp_le (tgt := 68) hx hb dX8_way_51 (by decide) (fun hc6 => ?_) (fun hc6 => ?_)
      · rw [if_pos hc6] at hf
        refine lv_aload_n hx hb dX8_way_68 rfl (lv_at hl 1 rfl) ?_
        refine lv_iload hx hb dX8_way_69 (lv_at hl 2 rfl) ?_
        obtain ⟨q7, hq7, hf⟩ := obE hf
        refine ct_cVi (rest := []) (tX4_keyOf hD (by decide) hq7) hx hb hml hown ht hX (P_u3 0 hP) hS wX4_keyOf kML_RX8_53 rfl rfl ⟨Nat.le_of_ble_eq_true rfl, Nat.le_of_ble_eq_true rfl⟩ (va_recv hX.1 hP rfl (cw_nodes (i := 0) (by decide))) rfl hl.1 rfl (Nat.le_of_ble_eq_true rfl) dX8_way_71 (fun H locs hP hS => ?_)
        rw [u3_self] at hP
        have e0 := Option.some.inj hf
        subst e0
        exact hret _ _ _ _ hP hS dX8_way_74
      · rw [if_neg hc6] at hf
        refine lv_aload_n hx hb dX8_way_54 rfl (lv_at hl 1 rfl) ?_
        refine lv_iload hx hb dX8_way_55 (lv_at hl 2 rfl) ?_
        obtain ⟨q8, hq8, hf⟩ := obE hf
        refine ct_cVi (rest := []) (tX4_parentOf hD (by decide) hq8) hx hb hml hown ht hX (P_u3 0 hP) hS wX4_parentOf kML_RX8_131 rfl rfl ⟨Nat.le_of_ble_eq_true rfl, Nat.le_of_ble_eq_true rfl⟩ (va_recv hX.1 hP rfl (cw_nodes (i := 0) (by decide))) rfl hl.1 rfl (Nat.le_of_ble_eq_true rfl) dX8_way_57 (fun H locs hP hS => ?_)
        rw [u3_self] at hP
        refine lv_istore (lv' := [(4, .int q8), (2, .int x2), (3, .ref (ad (10 * 0 + 1))), (6, .int x6)]) hx hb dX8_way_60 hl (by decide) rfl (fun ls hl => ?_)
        refine lv_iinc (v := x6 + (-1 : Int32)) (lv' := [(6, .int (x6 + (-1 : Int32))), (4, .int q8), (2, .int x2), (3, .ref (ad (10 * 0 + 1)))]) hx hb dX8_way_62 hl (k := 3) rfl rfl (by decide) rfl (fun ls hl => ?_)
        refine lv_goto (tgt := 48) hx hb dX8_way_65 (by decide) ?_
        exact ih48 _ _ x2 q8 (x6 + (-1 : Int32)) ls hP hS (lv_sub hl [2, 3, 1, 0] rfl) hf
  unfold fX8_way at hf
  refine lv_aload_n hx hb dX8_way_0 rfl (lv_at hl 0 rfl) ?_
  refine va_get (ci := 6) (v := .ref (ad (10 * 0))) hx hb ht i_X8 hown hX.1 hP 160 cw_ri rfl 0 (by decide) (ht _ kFL_RX8_10) (fun _ h9 => h9) rfl dX8_way_1 ?_
  refine va_get (ci := 5) (v := .ref (ad (10 * 0 + 1))) hx hb ht i_X7 hown hX.1 hP (10 * 0) (cw_tree (i := 0) (by decide)) rfl 0 (by decide) (ht _ kFL_RX8_40) (fun _ h9 => h9) rfl dX8_way_4 ?_
  refine lv_astore_n (lv' := [(3, .ref (ad (10 * 0 + 1))), (0, .ref (ad 160)), (1, .int x1), (2, .int x2)]) hx hb dX8_way_7 rfl hl (by decide) rfl (fun ls hl => ?_)
  refine lv_aload_n hx hb dX8_way_8 rfl (lv_at hl 0 rfl) ?_
  refine lv_iload_n hx hb dX8_way_9 rfl (lv_at hl 2 rfl) ?_
  obtain ⟨q1, hq1, hf⟩ := obE hf
  refine ct_cVi (rest := []) (tX4_slotOfKey hD (by decide) hq1) hx hb hml hown ht hX (P_u3 0 hP) hS wX4_slotOfKey kML_RX8_138 rfl rfl ⟨Nat.le_of_ble_eq_true rfl, Nat.le_of_ble_eq_true rfl⟩ (va_recv hX.1 hP rfl (cw_nodes (i := 0) (by decide))) rfl hl.1 rfl (Nat.le_of_ble_eq_true rfl) dX8_way_10 (fun H locs hP hS => ?_)
  rw [u3_self] at hP
  refine lv_istore (lv' := [(4, .int q1), (3, .ref (ad (10 * 0 + 1))), (0, .ref (ad 160)), (1, .int x1), (2, .int x2)]) hx hb dX8_way_13 hl (by decide) rfl (fun ls hl => ?_)
  refine lv_iload hx hb dX8_way_15 (lv_at hl 0 rfl) ?_
  refine lv_iconst (v := (-1 : Int32)) hx hb dX8_way_17 (by decide) ?_
  refine lv_icmp_ne (tgt := 24) hx hb dX8_way_18 (by decide) (fun hc2 => ?_) (fun hc2 => ?_)
  · rw [if_neg hc2] at hf
    refine lv_aload_n hx hb dX8_way_24 rfl (lv_at hl 1 rfl) ?_
    refine lv_iload hx hb dX8_way_25 (lv_at hl 0 rfl) ?_
    obtain ⟨q3, hq3, hf⟩ := obE hf
    refine ct_cVi (rest := []) (tX4_howManyAbove hD (by decide) hq3) hx hb hml hown ht hX (P_u3 0 hP) hS wX4_howManyAbove kML_RX8_115 rfl rfl ⟨Nat.le_of_ble_eq_true rfl, Nat.le_of_ble_eq_true rfl⟩ (va_recv hX.1 hP rfl (cw_nodes (i := 0) (by decide))) rfl hl.1 rfl (Nat.le_of_ble_eq_true rfl) dX8_way_27 (fun H locs hP hS => ?_)
    rw [u3_self] at hP
    refine lv_istore (lv' := [(5, .int q3), (4, .int q1), (3, .ref (ad (10 * 0 + 1))), (0, .ref (ad 160)), (1, .int x1), (2, .int x2)]) hx hb dX8_way_30 hl (by decide) rfl (fun ls hl => ?_)
    refine lv_iload_n hx hb dX8_way_32 rfl (lv_at hl 5 rfl) ?_
    refine lv_if_lt (tgt := 42) hx hb dX8_way_33 (by decide) (fun hc4 => ?_) (fun hc4 => ?_)
    · rw [if_pos hc4] at hf
      refine lv_iconst (v := (-1 : Int32)) hx hb dX8_way_42 (by decide) ?_
      have e0 := Option.some.inj hf
      subst e0
      exact hret _ _ _ _ hP hS dX8_way_43
    · rw [if_neg hc4] at hf
      refine lv_iload_n hx hb dX8_way_36 rfl (lv_at hl 5 rfl) ?_
      refine lv_iload hx hb dX8_way_37 (lv_at hl 0 rfl) ?_
      refine lv_icmp_le (tgt := 44) hx hb dX8_way_39 (by decide) (fun hc5 => ?_) (fun hc5 => ?_)
      · rw [if_pos hc5] at hf
        refine lv_iload hx hb dX8_way_44 (lv_at hl 0 rfl) ?_
        refine lv_istore (lv' := [(6, .int q3), (5, .int q3), (4, .int q1), (3, .ref (ad (10 * 0 + 1))), (0, .ref (ad 160)), (1, .int x1), (2, .int x2)]) hx hb dX8_way_46 hl (by decide) rfl (fun ls hl => ?_)
        exact blk48 F _ _ x2 q1 q3 ls hP hS (lv_sub hl [6, 3, 2, 0] rfl) hf
      · rw [if_neg hc5] at hf
        refine lv_iconst (v := (-1 : Int32)) hx hb dX8_way_42 (by decide) ?_
        have e0 := Option.some.inj hf
        subst e0
        exact hret _ _ _ _ hP hS dX8_way_43
  · rw [if_pos hc2] at hf
    refine lv_ldc hx hb hown (ht _ kKI_RX8_114) dX8_way_21 ?_
    have e0 := Option.some.inj hf
    subst e0
    exact hret _ _ _ _ hP hS dX8_way_23
def fX8_audit (F : Nat) (σ : Sig) (x1 : Int32) (x2 : Int32) : Option (Int32 × Sig) := (fX4_slotOfNumber F (σ 0) x1).bind fun q1 => (if q1 = (-1 : Int32) then (some ((-1000000001 : Int32), σ)) else ((fX8_isWithin F x2 (-1 : Int32) (30 : Int32)).bind fun q3 => (if q3 = 0 then (some ((-1000000002 : Int32), σ)) else ((fX7_copyFrom F (σ 1) (σ 0)).bind fun q5 => ((fX4_setRank F ((u3 σ 1 q5) 1) q1 x2).bind fun q6 => ((fX6_firstWrong F ((u3 (u3 σ 1 q5) 1 q6) 1)).bind fun q7 => (some (q7, u3 (u3 σ 1 q5) 1 q6))))))))
abbrev rX8_audit : Room := { frames := 4, cells := 0, slots := 0, locals := 102 }
theorem wX8_audit : kV yX8_audit cX8_audit 4 (some .int) 2 := ⟨kCO_yX8_audit, kIM_yX8_audit, kSE_yX8_audit, kIN_RX8, by decide +kernel, by decide +kernel, by decide +kernel⟩
set_option maxHeartbeats 4000000 in
set_option maxRecDepth 100000 in
theorem tX8_audit {l : Launch} {D : va_G} {cI cT cM : ClassId} {ad : Nat → Nat} (hD : gInj 167 ad) {F : Nat} {σ : Sig} {x1 : Int32} {x2 : Int32} {res : Int32 × Sig} (hf : fX8_audit F σ x1 x2 = some res) : CTi l yX8_audit cX8_audit 4 .int rX8_audit D (cTy cI cT cM) (gA 167 ad) [.ref (ad 160), .int x1, .int x2] (cw cI cT cM ad σ) res.1 (cw cI cT cM ad res.2) := by
  refine ct_int (by decide) (Nat.le_of_ble_eq_true rfl) ?_
  intro p e s m args below meth c Q ls hx hb hml hown ht hX hret hP hS hl
  have hl : lv_has ls 4 [(0, .ref (ad 160)), (1, .int x1), (2, .int x2)] := hl
  unfold fX8_audit at hf
  refine lv_aload_n hx hb dX8_audit_0 rfl (lv_at hl 0 rfl) ?_
  refine va_get (ci := 6) (v := .ref (ad (10 * 0))) hx hb ht i_X8 hown hX.1 hP 160 cw_ri rfl 0 (by decide) (ht _ kFL_RX8_10) (fun _ h9 => h9) rfl dX8_audit_1 ?_
  refine va_get (ci := 5) (v := .ref (ad (10 * 0 + 1))) hx hb ht i_X7 hown hX.1 hP (10 * 0) (cw_tree (i := 0) (by decide)) rfl 0 (by decide) (ht _ kFL_RX8_40) (fun _ h9 => h9) rfl dX8_audit_4 ?_
  refine lv_iload_n hx hb dX8_audit_7 rfl (lv_at hl 1 rfl) ?_
  obtain ⟨q1, hq1, hf⟩ := obE hf
  refine ct_cVi (rest := []) (tX4_slotOfNumber hD (by decide) hq1) hx hb hml hown ht hX (P_u3 0 hP) hS wX4_slotOfNumber kML_RX8_111 rfl rfl ⟨Nat.le_of_ble_eq_true rfl, Nat.le_of_ble_eq_true rfl⟩ (va_recv hX.1 hP rfl (cw_nodes (i := 0) (by decide))) rfl hl.1 rfl (Nat.le_of_ble_eq_true rfl) dX8_audit_8 (fun H locs hP hS => ?_)
  rw [u3_self] at hP
  refine lv_istore_n (lv' := [(3, .int q1), (0, .ref (ad 160)), (1, .int x1), (2, .int x2)]) hx hb dX8_audit_11 rfl hl (by decide) rfl (fun ls hl => ?_)
  refine lv_iload_n hx hb dX8_audit_12 rfl (lv_at hl 0 rfl) ?_
  refine lv_iconst (v := (-1 : Int32)) hx hb dX8_audit_13 (by decide) ?_
  refine lv_icmp_ne (tgt := 20) hx hb dX8_audit_14 (by decide) (fun hc2 => ?_) (fun hc2 => ?_)
  · rw [if_neg hc2] at hf
    refine lv_iload_n hx hb dX8_audit_20 rfl (lv_at hl 3 rfl) ?_
    refine lv_iconst (v := (-1 : Int32)) hx hb dX8_audit_21 (by decide) ?_
    refine lv_bipush (v := (30 : Int32)) hx hb dX8_audit_22 (by decide) ?_
    obtain ⟨q3, hq3, hf⟩ := obE hf
    refine ct_cSi (rest := []) (tX8_isWithin hD hq3) hx hb hml hown ht hX hP hS wX8_isWithin kML_RX8_185 rfl rfl ⟨Nat.le_of_ble_eq_true rfl, Nat.le_of_ble_eq_true rfl⟩ rfl hl.1 rfl (Nat.le_of_ble_eq_true rfl) dX8_audit_24 (fun H locs hP hS => ?_)
    refine lv_if_ne (tgt := 33) hx hb dX8_audit_27 (by decide) (fun hc4 => ?_) (fun hc4 => ?_)
    · rw [if_neg hc4] at hf
      refine lv_aload_n hx hb dX8_audit_33 rfl (lv_at hl 1 rfl) ?_
      refine va_get (ci := 6) (v := .ref (ad (10 * 1))) hx hb ht i_X8 hown hX.1 hP 160 cw_ri rfl 1 (by decide) (ht _ kFL_RX8_16) (fun _ h9 => h9) rfl dX8_audit_34 ?_
      refine lv_aload_n hx hb dX8_audit_37 rfl (lv_at hl 1 rfl) ?_
      refine va_get (ci := 6) (v := .ref (ad (10 * 0))) hx hb ht i_X8 hown hX.1 hP 160 cw_ri rfl 0 (by decide) (ht _ kFL_RX8_10) (fun _ h9 => h9) rfl dX8_audit_38 ?_
      obtain ⟨q5, hq5, hf⟩ := obE hf
      refine ct_cVv (rest := []) (tX7_copyFrom hD (by decide) (by decide) (by decide) hq5) hx hb hml hown ht hX (P_u3 1 hP) hS wX7_copyFrom kML_RX8_192 rfl rfl ⟨Nat.le_of_ble_eq_true rfl, Nat.le_of_ble_eq_true rfl⟩ (va_recv hX.1 hP rfl (cw_tree (i := 1) (by decide))) rfl hl.1 rfl (Nat.le_of_ble_eq_true rfl) dX8_audit_41 (fun H locs hP hS => ?_)
      refine lv_aload_n hx hb dX8_audit_44 rfl (lv_at hl 1 rfl) ?_
      refine va_get (ci := 6) (v := .ref (ad (10 * 1))) hx hb ht i_X8 hown hX.1 hP 160 cw_ri rfl 1 (by decide) (ht _ kFL_RX8_16) (fun _ h9 => h9) rfl dX8_audit_45 ?_
      refine va_get (ci := 5) (v := .ref (ad (10 * 1 + 1))) hx hb ht i_X7 hown hX.1 hP (10 * 1) (cw_tree (i := 1) (by decide)) rfl 0 (by decide) (ht _ kFL_RX8_40) (fun _ h9 => h9) rfl dX8_audit_48 ?_
      refine lv_iload_n hx hb dX8_audit_51 rfl (lv_at hl 0 rfl) ?_
      refine lv_iload_n hx hb dX8_audit_52 rfl (lv_at hl 3 rfl) ?_
      obtain ⟨q6, hq6, hf⟩ := obE hf
      refine ct_cVv (rest := []) (tX4_setRank hD (by decide) hq6) hx hb hml hown ht hX (P_u3 1 hP) hS wX4_setRank kML_RX8_232 rfl rfl ⟨Nat.le_of_ble_eq_true rfl, Nat.le_of_ble_eq_true rfl⟩ (va_recv hX.1 hP rfl (cw_nodes (i := 1) (by decide))) rfl hl.1 rfl (Nat.le_of_ble_eq_true rfl) dX8_audit_53 (fun H locs hP hS => ?_)
      refine lv_aload_n hx hb dX8_audit_56 rfl (lv_at hl 1 rfl) ?_
      refine va_get (ci := 6) (v := .ref (ad (10 * 1))) hx hb ht i_X8 hown hX.1 hP 160 cw_ri rfl 1 (by decide) (ht _ kFL_RX8_16) (fun _ h9 => h9) rfl dX8_audit_57 ?_
      refine va_get (ci := 5) (v := .ref (ad (10 * 1 + 1))) hx hb ht i_X7 hown hX.1 hP (10 * 1) (cw_tree (i := 1) (by decide)) rfl 0 (by decide) (ht _ kFL_RX8_40) (fun _ h9 => h9) rfl dX8_audit_60 ?_
      obtain ⟨q7, hq7, hf⟩ := obE hf
      refine ct_cSi (rest := []) (tX6_firstWrong hD (by decide) hq7) hx hb hml hown ht hX (P_u3 1 hP) hS wX6_firstWrong kML_RX8_235 rfl rfl ⟨Nat.le_of_ble_eq_true rfl, Nat.le_of_ble_eq_true rfl⟩ rfl hl.1 rfl (Nat.le_of_ble_eq_true rfl) dX8_audit_63 (fun H locs hP hS => ?_)
      rw [u3_self] at hP
      have e0 := Option.some.inj hf
      subst e0
      exact hret _ _ _ _ hP hS dX8_audit_66
    · rw [if_pos hc4] at hf
      refine lv_ldc hx hb hown (ht _ kKI_RX8_110) dX8_audit_30 ?_
      have e0 := Option.some.inj hf
      subst e0
      exact hret _ _ _ _ hP hS dX8_audit_32
  · rw [if_pos hc2] at hf
    refine lv_ldc hx hb hown (ht _ kKI_RX8_114) dX8_audit_17 ?_
    have e0 := Option.some.inj hf
    subst e0
    exact hret _ _ _ _ hP hS dX8_audit_19
def fX8_seed (F : Nat) (σ : Sig) (x1 : Int32) : Option (Int32 × Sig) := if 0 ≤ x1 then (some (σ 16 3 0, u3 σ 16 (u2 (σ 16) 3 0 x1))) else (some ((-1000000002 : Int32), σ))
abbrev rX8_seed : Room := { frames := 0, cells := 0, slots := 0, locals := 0 }
theorem wX8_seed : kV yX8_seed cX8_seed 3 (some .int) 1 := ⟨kCO_yX8_seed, kIM_yX8_seed, kSE_yX8_seed, kIN_RX8, by decide +kernel, by decide +kernel, by decide +kernel⟩
set_option maxHeartbeats 4000000 in
set_option maxRecDepth 100000 in
theorem tX8_seed {l : Launch} {D : va_G} {cI cT cM : ClassId} {ad : Nat → Nat} (hD : gInj 167 ad) {F : Nat} {σ : Sig} {x1 : Int32} {res : Int32 × Sig} (hf : fX8_seed F σ x1 = some res) : CTi l yX8_seed cX8_seed 3 .int rX8_seed D (cTy cI cT cM) (gA 167 ad) [.ref (ad 160), .int x1] (cw cI cT cM ad σ) res.1 (cw cI cT cM ad res.2) := by
  refine ct_int (by decide) (Nat.le_of_ble_eq_true rfl) ?_
  intro p e s m args below meth c Q ls hx hb hml hown ht hX hret hP hS hl
  have hl : lv_has ls 3 [(0, .ref (ad 160)), (1, .int x1)] := hl
  unfold fX8_seed at hf
  refine lv_iload_n hx hb dX8_seed_0 rfl (lv_at hl 1 rfl) ?_
  refine lv_if_ge (tgt := 7) hx hb dX8_seed_1 (by decide) (fun hc1 => ?_) (fun hc1 => ?_)
  · rw [if_pos hc1] at hf
    refine lv_aload_n hx hb dX8_seed_7 rfl (lv_at hl 0 rfl) ?_
    refine va_get (ci := 6) (v := .ref (ad 166)) hx hb ht i_X8 hown hX.1 hP 160 cw_ri rfl 4 (by decide) (ht _ kFL_RX8_29) (fun _ h9 => h9) rfl dX8_seed_8 ?_
    refine va_get (ci := 1) (v := .int (σ 16 3 0)) hx hb ht i_X2 hown hX.1 hP 166 cw_draws rfl 0 (by decide) (ht _ kFL_RX8_238) (fun _ h9 => h9) rfl dX8_seed_11 ?_
    refine lv_istore_n (lv' := [(2, .int (σ 16 3 0)), (0, .ref (ad 160)), (1, .int x1)]) hx hb dX8_seed_14 rfl hl (by decide) rfl (fun ls hl => ?_)
    refine lv_aload_n hx hb dX8_seed_15 rfl (lv_at hl 1 rfl) ?_
    refine va_get (ci := 6) (v := .ref (ad 166)) hx hb ht i_X8 hown hX.1 hP 160 cw_ri rfl 4 (by decide) (ht _ kFL_RX8_29) (fun _ h9 => h9) rfl dX8_seed_16 ?_
    refine lv_iload_n hx hb dX8_seed_19 rfl (lv_at hl 2 rfl) ?_
    refine cr_putDraw hD hx hb ht hown hX hP hS kFL_RX8_238 dX8_seed_20 (fun H locs hP hS => ?_)
    refine lv_iload_n hx hb dX8_seed_23 rfl (lv_at hl 0 rfl) ?_
    have e0 := Option.some.inj hf
    subst e0
    exact hret _ _ _ _ hP hS dX8_seed_24
  · rw [if_neg hc1] at hf
    refine lv_ldc hx hb hown (ht _ kKI_RX8_110) dX8_seed_4 ?_
    have e0 := Option.some.inj hf
    subst e0
    exact hret _ _ _ _ hP hS dX8_seed_6
def fX8_keep (F : Nat) (σ : Sig) (x1 : Int32) : Option (Int32 × Sig) := (fX8_isImage F x1).bind fun q1 => (if q1 = 0 then (some ((-1000000001 : Int32), σ)) else (if x1 < 0 ∨ 2 ≤ x1.toNatClampNeg then none else ((fX7_copyFrom F (σ (14 + x1.toNatClampNeg)) (σ 0)).bind fun q5 => (if x1 < 0 ∨ 2 ≤ x1.toNatClampNeg then none else (if x1 < 0 ∨ 2 ≤ x1.toNatClampNeg then none else ((fX5_forget F (u3 (u3 (u3 σ (14 + x1.toNatClampNeg) q5) 16 (u2 ((u3 σ (14 + x1.toNatClampNeg) q5) 16) (1 + x1.toNatClampNeg) 0 ((u3 σ (14 + x1.toNatClampNeg) q5) 16 3 0))) 16 (u2 ((u3 (u3 σ (14 + x1.toNatClampNeg) q5) 16 (u2 ((u3 σ (14 + x1.toNatClampNeg) q5) 16) (1 + x1.toNatClampNeg) 0 ((u3 σ (14 + x1.toNatClampNeg) q5) 16 3 0))) 16) (1 + x1.toNatClampNeg) 1 1))).bind fun q10 => (some ((1 : Int32), q10))))))))
abbrev rX8_keep : Room := { frames := 3, cells := 0, slots := 0, locals := 102 }
theorem wX8_keep : kV yX8_keep cX8_keep 2 (some .int) 1 := ⟨kCO_yX8_keep, kIM_yX8_keep, kSE_yX8_keep, kIN_RX8, by decide +kernel, by decide +kernel, by decide +kernel⟩
set_option maxHeartbeats 4000000 in
set_option maxRecDepth 100000 in
theorem tX8_keep {l : Launch} {D : va_G} {cI cT cM : ClassId} {ad : Nat → Nat} (hD : gInj 167 ad) {F : Nat} {σ : Sig} {x1 : Int32} {res : Int32 × Sig} (hf : fX8_keep F σ x1 = some res) : CTi l yX8_keep cX8_keep 2 .int rX8_keep D (cTy cI cT cM) (gA 167 ad) [.ref (ad 160), .int x1] (cw cI cT cM ad σ) res.1 (cw cI cT cM ad res.2) := by
  refine ct_int (by decide) (Nat.le_of_ble_eq_true rfl) ?_
  intro p e s m args below meth c Q ls hx hb hml hown ht hX hret hP hS hl
  have hl : lv_has ls 2 [(0, .ref (ad 160)), (1, .int x1)] := hl
  unfold fX8_keep at hf
  refine lv_iload_n hx hb dX8_keep_0 rfl (lv_at hl 1 rfl) ?_
  obtain ⟨q1, hq1, hf⟩ := obE hf
  refine ct_cSi (rest := []) (tX8_isImage hD hq1) hx hb hml hown ht hX hP hS wX8_isImage kML_RX8_202 rfl rfl ⟨Nat.le_of_ble_eq_true rfl, Nat.le_of_ble_eq_true rfl⟩ rfl hl.1 rfl (Nat.le_of_ble_eq_true rfl) dX8_keep_1 (fun H locs hP hS => ?_)
  refine lv_if_ne (tgt := 10) hx hb dX8_keep_4 (by decide) (fun hc2 => ?_) (fun hc2 => ?_)
  · rw [if_neg hc2] at hf
    refine lv_aload_n hx hb dX8_keep_10 rfl (lv_at hl 0 rfl) ?_
    refine va_get (ci := 6) (v := .ref (ad 163)) hx hb ht i_X8 hown hX.1 hP 160 cw_ri rfl 3 (by decide) (ht _ kFL_RX8_35) (fun _ h9 => h9) rfl dX8_keep_11 ?_
    refine lv_iload_n hx hb dX8_keep_14 rfl (lv_at hl 1 rfl) ?_
    obtain ⟨hn3, hf⟩ := ngE _ hf
    have hb4 : x1.toNatClampNeg < 2 := Nat.not_le.mp fun q => hn3 (Or.inr q)
    refine va_aldq hx hb hX.1 hP 163 2 cw_images rfl hn3 dX8_keep_15 ?_
    refine W.eq (g2 := F0 m 16 ls [.ref (ad (164 + x1.toNatClampNeg))]) rfl ?_
    refine va_get (ci := 2) (v := .ref (ad (10 * (14 + x1.toNatClampNeg)))) hx hb ht i_X3 hown hX.1 hP (164 + x1.toNatClampNeg) (cw_img hb4) rfl 0 (by decide) (ht _ kFL_RX8_212) (fun _ h9 => h9) rfl dX8_keep_16 ?_
    refine lv_aload_n hx hb dX8_keep_19 rfl (lv_at hl 0 rfl) ?_
    refine va_get (ci := 6) (v := .ref (ad (10 * 0))) hx hb ht i_X8 hown hX.1 hP 160 cw_ri rfl 0 (by decide) (ht _ kFL_RX8_10) (fun _ h9 => h9) rfl dX8_keep_20 ?_
    obtain ⟨q5, hq5, hf⟩ := obE hf
    refine ct_cVv (rest := []) (tX7_copyFrom hD (by have := hb4; omega) (by decide) (by omega) hq5) hx hb hml hown ht hX (P_u3 (14 + x1.toNatClampNeg) hP) hS wX7_copyFrom kML_RX8_192 rfl rfl ⟨Nat.le_of_ble_eq_true rfl, Nat.le_of_ble_eq_true rfl⟩ (va_recv hX.1 hP rfl (cw_tree (i := (14 + x1.toNatClampNeg)) (by have := hb4; omega))) rfl hl.1 rfl (Nat.le_of_ble_eq_true rfl) dX8_keep_23 (fun H locs hP hS => ?_)
    refine lv_aload_n hx hb dX8_keep_26 rfl (lv_at hl 0 rfl) ?_
    refine va_get (ci := 6) (v := .ref (ad 163)) hx hb ht i_X8 hown hX.1 hP 160 cw_ri rfl 3 (by decide) (ht _ kFL_RX8_35) (fun _ h9 => h9) rfl dX8_keep_27 ?_
    refine lv_iload_n hx hb dX8_keep_30 rfl (lv_at hl 1 rfl) ?_
    obtain ⟨hn6, hf⟩ := ngE _ hf
    have hb7 : x1.toNatClampNeg < 2 := Nat.not_le.mp fun q => hn6 (Or.inr q)
    refine va_aldq hx hb hX.1 hP 163 2 cw_images rfl hn6 dX8_keep_31 ?_
    refine W.eq (g2 := F0 m 32 ls [.ref (ad (164 + x1.toNatClampNeg))]) rfl ?_
    refine lv_aload_n hx hb dX8_keep_32 rfl (lv_at hl 0 rfl) ?_
    refine va_get (ci := 6) (v := .ref (ad 166)) hx hb ht i_X8 hown hX.1 hP 160 cw_ri rfl 4 (by decide) (ht _ kFL_RX8_29) (fun _ h9 => h9) rfl dX8_keep_33 ?_
    refine va_get (ci := 1) (v := .int ((u3 σ (14 + x1.toNatClampNeg) q5) 16 3 0)) hx hb ht i_X2 hown hX.1 hP 166 cw_draws rfl 0 (by decide) (ht _ kFL_RX8_238) (fun _ h9 => h9) rfl dX8_keep_36 ?_
    refine cr_putSeed hD hx hb ht hown hX hP hS hb7 kFL_RX8_241 dX8_keep_39 (fun H locs hP hS => ?_)
    refine lv_aload_n hx hb dX8_keep_42 rfl (lv_at hl 0 rfl) ?_
    refine va_get (ci := 6) (v := .ref (ad 163)) hx hb ht i_X8 hown hX.1 hP 160 cw_ri rfl 3 (by decide) (ht _ kFL_RX8_35) (fun _ h9 => h9) rfl dX8_keep_43 ?_
    refine lv_iload_n hx hb dX8_keep_46 rfl (lv_at hl 1 rfl) ?_
    obtain ⟨hn8, hf⟩ := ngE _ hf
    have hb9 : x1.toNatClampNeg < 2 := Nat.not_le.mp fun q => hn8 (Or.inr q)
    refine va_aldq hx hb hX.1 hP 163 2 cw_images rfl hn8 dX8_keep_47 ?_
    refine W.eq (g2 := F0 m 48 ls [.ref (ad (164 + x1.toNatClampNeg))]) rfl ?_
    refine lv_iconst (v := (1 : Int32)) hx hb dX8_keep_48 (by decide) ?_
    refine cr_putKept hD hx hb ht hown hX hP hS hb9 kFL_RX8_205 dX8_keep_49 (fun H locs hP hS => ?_)
    refine lv_aload_n hx hb dX8_keep_52 rfl (lv_at hl 0 rfl) ?_
    refine va_get (ci := 6) (v := .ref (ad 161)) hx hb ht i_X8 hown hX.1 hP 160 cw_ri rfl 2 (by decide) (ht _ kFL_RX8_22) (fun _ h9 => h9) rfl dX8_keep_53 ?_
    obtain ⟨q10, hq10, hf⟩ := obE hf
    refine ct_cVv (rest := []) (tX5_forget hD hq10) hx hb hml hown ht hX hP hS wX5_forget kML_RX8_244 rfl rfl ⟨Nat.le_of_ble_eq_true rfl, Nat.le_of_ble_eq_true rfl⟩ (va_recv hX.1 hP rfl cw_past) rfl hl.1 rfl (Nat.le_of_ble_eq_true rfl) dX8_keep_56 (fun H locs hP hS => ?_)
    refine lv_iconst (v := (1 : Int32)) hx hb dX8_keep_59 (by decide) ?_
    have e0 := Option.some.inj hf
    subst e0
    exact hret _ _ _ _ hP hS dX8_keep_60
  · rw [if_pos hc2] at hf
    refine lv_ldc hx hb hown (ht _ kKI_RX8_114) dX8_keep_7 ?_
    have e0 := Option.some.inj hf
    subst e0
    exact hret _ _ _ _ hP hS dX8_keep_9
def fX8_goBack (F : Nat) (σ : Sig) (x1 : Int32) : Option (Int32 × Sig) := (fX8_isImage F x1).bind fun q1 => (if q1 = 0 then (some ((-1000000001 : Int32), σ)) else (if x1 < 0 ∨ 2 ≤ x1.toNatClampNeg then none else (if (σ 16 (1 + x1.toNatClampNeg) 1) = 0 then (some ((-1000000003 : Int32), σ)) else (if x1 < 0 ∨ 2 ≤ x1.toNatClampNeg then none else ((fX7_copyFrom F (σ 0) (σ (14 + x1.toNatClampNeg))).bind fun q8 => (if x1 < 0 ∨ 2 ≤ x1.toNatClampNeg then none else ((fX5_forget F (u3 (u3 σ 0 q8) 16 (u2 ((u3 σ 0 q8) 16) 3 0 ((u3 σ 0 q8) 16 (1 + x1.toNatClampNeg) 0)))).bind fun q11 => (some ((1 : Int32), q11)))))))))
abbrev rX8_goBack : Room := { frames := 3, cells := 0, slots := 0, locals := 102 }
theorem wX8_goBack : kV yX8_goBack cX8_goBack 2 (some .int) 1 := ⟨kCO_yX8_goBack, kIM_yX8_goBack, kSE_yX8_goBack, kIN_RX8, by decide +kernel, by decide +kernel, by decide +kernel⟩
set_option maxHeartbeats 4000000 in
set_option maxRecDepth 100000 in
theorem tX8_goBack {l : Launch} {D : va_G} {cI cT cM : ClassId} {ad : Nat → Nat} (hD : gInj 167 ad) {F : Nat} {σ : Sig} {x1 : Int32} {res : Int32 × Sig} (hf : fX8_goBack F σ x1 = some res) : CTi l yX8_goBack cX8_goBack 2 .int rX8_goBack D (cTy cI cT cM) (gA 167 ad) [.ref (ad 160), .int x1] (cw cI cT cM ad σ) res.1 (cw cI cT cM ad res.2) := by
  refine ct_int (by decide) (Nat.le_of_ble_eq_true rfl) ?_
  intro p e s m args below meth c Q ls hx hb hml hown ht hX hret hP hS hl
  have hl : lv_has ls 2 [(0, .ref (ad 160)), (1, .int x1)] := hl
  unfold fX8_goBack at hf
  refine lv_iload_n hx hb dX8_goBack_0 rfl (lv_at hl 1 rfl) ?_
  obtain ⟨q1, hq1, hf⟩ := obE hf
  refine ct_cSi (rest := []) (tX8_isImage hD hq1) hx hb hml hown ht hX hP hS wX8_isImage kML_RX8_202 rfl rfl ⟨Nat.le_of_ble_eq_true rfl, Nat.le_of_ble_eq_true rfl⟩ rfl hl.1 rfl (Nat.le_of_ble_eq_true rfl) dX8_goBack_1 (fun H locs hP hS => ?_)
  refine lv_if_ne (tgt := 10) hx hb dX8_goBack_4 (by decide) (fun hc2 => ?_) (fun hc2 => ?_)
  · rw [if_neg hc2] at hf
    refine lv_aload_n hx hb dX8_goBack_10 rfl (lv_at hl 0 rfl) ?_
    refine va_get (ci := 6) (v := .ref (ad 163)) hx hb ht i_X8 hown hX.1 hP 160 cw_ri rfl 3 (by decide) (ht _ kFL_RX8_35) (fun _ h9 => h9) rfl dX8_goBack_11 ?_
    refine lv_iload_n hx hb dX8_goBack_14 rfl (lv_at hl 1 rfl) ?_
    obtain ⟨hn3, hf⟩ := ngE _ hf
    have hb4 : x1.toNatClampNeg < 2 := Nat.not_le.mp fun q => hn3 (Or.inr q)
    refine va_aldq hx hb hX.1 hP 163 2 cw_images rfl hn3 dX8_goBack_15 ?_
    refine W.eq (g2 := F0 m 16 ls [.ref (ad (164 + x1.toNatClampNeg))]) rfl ?_
    refine va_get (ci := 2) (v := .int (σ 16 (1 + x1.toNatClampNeg) 1)) hx hb ht i_X3 hown hX.1 hP (164 + x1.toNatClampNeg) (cw_img hb4) rfl 2 (by decide) (ht _ kFL_RX8_205) (fun _ h9 => h9) rfl dX8_goBack_16 ?_
    refine lv_if_ne (tgt := 25) hx hb dX8_goBack_19 (by decide) (fun hc5 => ?_) (fun hc5 => ?_)
    · rw [if_neg hc5] at hf
      refine lv_aload_n hx hb dX8_goBack_25 rfl (lv_at hl 0 rfl) ?_
      refine va_get (ci := 6) (v := .ref (ad (10 * 0))) hx hb ht i_X8 hown hX.1 hP 160 cw_ri rfl 0 (by decide) (ht _ kFL_RX8_10) (fun _ h9 => h9) rfl dX8_goBack_26 ?_
      refine lv_aload_n hx hb dX8_goBack_29 rfl (lv_at hl 0 rfl) ?_
      refine va_get (ci := 6) (v := .ref (ad 163)) hx hb ht i_X8 hown hX.1 hP 160 cw_ri rfl 3 (by decide) (ht _ kFL_RX8_35) (fun _ h9 => h9) rfl dX8_goBack_30 ?_
      refine lv_iload_n hx hb dX8_goBack_33 rfl (lv_at hl 1 rfl) ?_
      obtain ⟨hn6, hf⟩ := ngE _ hf
      have hb7 : x1.toNatClampNeg < 2 := Nat.not_le.mp fun q => hn6 (Or.inr q)
      refine va_aldq hx hb hX.1 hP 163 2 cw_images rfl hn6 dX8_goBack_34 ?_
      refine W.eq (g2 := F0 m 35 ls [.ref (ad (164 + x1.toNatClampNeg)), .ref (ad (10 * 0))]) rfl ?_
      refine va_get (ci := 2) (v := .ref (ad (10 * (14 + x1.toNatClampNeg)))) hx hb ht i_X3 hown hX.1 hP (164 + x1.toNatClampNeg) (cw_img hb7) rfl 0 (by decide) (ht _ kFL_RX8_212) (fun _ h9 => h9) rfl dX8_goBack_35 ?_
      obtain ⟨q8, hq8, hf⟩ := obE hf
      refine ct_cVv (rest := []) (tX7_copyFrom hD (by decide) (by have := hb7; omega) (by omega) hq8) hx hb hml hown ht hX (P_u3 0 hP) hS wX7_copyFrom kML_RX8_192 rfl rfl ⟨Nat.le_of_ble_eq_true rfl, Nat.le_of_ble_eq_true rfl⟩ (va_recv hX.1 hP rfl (cw_tree (i := 0) (by decide))) rfl hl.1 rfl (Nat.le_of_ble_eq_true rfl) dX8_goBack_38 (fun H locs hP hS => ?_)
      refine lv_aload_n hx hb dX8_goBack_41 rfl (lv_at hl 0 rfl) ?_
      refine va_get (ci := 6) (v := .ref (ad 166)) hx hb ht i_X8 hown hX.1 hP 160 cw_ri rfl 4 (by decide) (ht _ kFL_RX8_29) (fun _ h9 => h9) rfl dX8_goBack_42 ?_
      refine lv_aload_n hx hb dX8_goBack_45 rfl (lv_at hl 0 rfl) ?_
      refine va_get (ci := 6) (v := .ref (ad 163)) hx hb ht i_X8 hown hX.1 hP 160 cw_ri rfl 3 (by decide) (ht _ kFL_RX8_35) (fun _ h9 => h9) rfl dX8_goBack_46 ?_
      refine lv_iload_n hx hb dX8_goBack_49 rfl (lv_at hl 1 rfl) ?_
      obtain ⟨hn9, hf⟩ := ngE _ hf
      have hb10 : x1.toNatClampNeg < 2 := Nat.not_le.mp fun q => hn9 (Or.inr q)
      refine va_aldq hx hb hX.1 hP 163 2 cw_images rfl hn9 dX8_goBack_50 ?_
      refine W.eq (g2 := F0 m 51 ls [.ref (ad (164 + x1.toNatClampNeg)), .ref (ad 166)]) rfl ?_
      refine va_get (ci := 2) (v := .int ((u3 σ 0 q8) 16 (1 + x1.toNatClampNeg) 0)) hx hb ht i_X3 hown hX.1 hP (164 + x1.toNatClampNeg) (cw_img hb10) rfl 1 (by decide) (ht _ kFL_RX8_241) (fun _ h9 => h9) rfl dX8_goBack_51 ?_
      refine cr_putDraw hD hx hb ht hown hX hP hS kFL_RX8_238 dX8_goBack_54 (fun H locs hP hS => ?_)
      refine lv_aload_n hx hb dX8_goBack_57 rfl (lv_at hl 0 rfl) ?_
      refine va_get (ci := 6) (v := .ref (ad 161)) hx hb ht i_X8 hown hX.1 hP 160 cw_ri rfl 2 (by decide) (ht _ kFL_RX8_22) (fun _ h9 => h9) rfl dX8_goBack_58 ?_
      obtain ⟨q11, hq11, hf⟩ := obE hf
      refine ct_cVv (rest := []) (tX5_forget hD hq11) hx hb hml hown ht hX hP hS wX5_forget kML_RX8_244 rfl rfl ⟨Nat.le_of_ble_eq_true rfl, Nat.le_of_ble_eq_true rfl⟩ (va_recv hX.1 hP rfl cw_past) rfl hl.1 rfl (Nat.le_of_ble_eq_true rfl) dX8_goBack_61 (fun H locs hP hS => ?_)
      refine lv_iconst (v := (1 : Int32)) hx hb dX8_goBack_64 (by decide) ?_
      have e0 := Option.some.inj hf
      subst e0
      exact hret _ _ _ _ hP hS dX8_goBack_65
    · rw [if_pos hc5] at hf
      refine lv_ldc hx hb hown (ht _ kKI_RX8_163) dX8_goBack_22 ?_
      have e0 := Option.some.inj hf
      subst e0
      exact hret _ _ _ _ hP hS dX8_goBack_24
  · rw [if_pos hc2] at hf
    refine lv_ldc hx hb hown (ht _ kKI_RX8_114) dX8_goBack_7 ?_
    have e0 := Option.some.inj hf
    subst e0
    exact hret _ _ _ _ hP hS dX8_goBack_9
