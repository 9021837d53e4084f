def fX0_flat_4 (F : Nat) : Nat → Int32 → Int32 → Int32 → Option (Int32)
  | 0, _, _, _ => none
  | n + 1, x0, x1, x2 => if x0 ≤ x2 then (some x1) else (if (60 : Int32) ≤ x1 then (some x1) else (fX0_flat_4 F n x0 (x1 + (1 : Int32)) (((2 : Int32) * x2) + (1 : Int32))))
def fX0_flat (F : Nat) (x0 : Int32) : Option (Int32) := fX0_flat_4 F F x0 (0 : Int32) (0 : Int32)
abbrev rX0_flat : Room := { frames := 0, cells := 0, slots := 0, locals := 0 }
theorem wX0_flat : kF yX0_flat cX0_flat 3 (some .int) 1 := ⟨kCO_yX0_flat, kSM_yX0_flat, kIN_RX0, by decide +kernel, by decide +kernel, by decide +kernel⟩
set_option maxHeartbeats 4000000 in
set_option maxRecDepth 100000 in
theorem tX0_flat {l : Launch} {D : va_G} {cI cT cM : ClassId} {ad : Nat → Nat} (hD : gInj 167 ad) {F : Nat} {σ : Sig} {x0 : Int32} {res : Int32} (hf : fX0_flat F x0 = some res) : CTi l yX0_flat cX0_flat 3 .int rX0_flat D (cTy cI cT cM) (gA 167 ad) [.int x0] (cw cI cT cM ad σ) res (cw cI cT cM ad σ) := by
  refine ct_int (by decide) (Nat.le_of_ble_eq_true rfl) ?_
  intro p e s m args below meth c Q ls hx hb hml hown ht hX hret hP hS hl
  have hl : lv_has ls 3 [(0, .int x0)] := hl
  have blk4 : ∀ (n4 : Nat) (H : Heap) (locs : List Loc) (x0 : Int32) (x1 : Int32) (x2 : Int32) (ls : Array Slot), va_P D vwCl (cw cI cT cM ad σ) H → va_S (gA 167 ad) s.heap H locs → lv_has ls 3 [(0, .int x0), (1, .int x1), (2, .int x2)] → fX0_flat_4 F n4 x0 x1 x2 = some res → W p l e rX0_flat s m args below meth c H locs 0 0 Q (F0 m 4 ls []) := by
    intro n4
    induction n4 with
    | zero =>
      intro H locs x0 x1 x2 ls hP hS hl hf
      rw [fX0_flat_4] at hf
      cases hf
    | succ n4 ih4 =>
      skip
      intro H locs x0 x1 x2 ls hP hS hl hf
      rw [fX0_flat_4] at hf
      refine lv_iload_n hx hb dX0_flat_4 rfl (lv_at hl 2 rfl) ?_
      refine lv_iload_n hx hb dX0_flat_5 rfl (lv_at hl 0 rfl) ?_
      refine lv_icmp_ge (tgt := 27) hx hb dX0_flat_6 (by decide) (fun hc1 => ?_) (fun hc1 => ?_)
      · rw [if_pos hc1] at hf
        refine lv_iload_n hx hb dX0_flat_27 rfl (lv_at hl 1 rfl) ?_
        have e0 := Option.some.inj hf
        subst e0
        exact hret _ _ _ _ hP hS dX0_flat_28
      · rw [if_neg hc1] at hf
        refine lv_iload_n hx hb dX0_flat_9 rfl (lv_at hl 1 rfl) ?_
        refine lv_bipush (v := (60 : Int32)) hx hb dX0_flat_10 (by decide) ?_
        refine lv_icmp_ge (tgt := 27) hx hb dX0_flat_12 (by decide) (fun hc2 => ?_) (fun hc2 => ?_)
        · rw [if_pos hc2] at hf
          refine lv_iload_n hx hb dX0_flat_27 rfl (lv_at hl 1 rfl) ?_
          have e0 := Option.some.inj hf
          subst e0
          exact hret _ _ _ _ hP hS dX0_flat_28
        · rw [if_neg hc2] at hf
          refine lv_iconst (v := (2 : Int32)) hx hb dX0_flat_15 (by decide) ?_
          refine lv_iload_n hx hb dX0_flat_16 rfl (lv_at hl 2 rfl) ?_
          refine lv_imul hx hb dX0_flat_17 ?_
          refine lv_iconst (v := (1 : Int32)) hx hb dX0_flat_18 (by decide) ?_
          refine lv_iadd hx hb dX0_flat_19 ?_
          refine lv_istore_n (lv' := [(2, .int (((2 : Int32) * x2) + (1 : Int32))), (0, .int x0), (1, .int x1)]) hx hb dX0_flat_20 rfl hl (by decide) rfl (fun ls hl => ?_)
          refine lv_iinc (v := x1 + (1 : Int32)) (lv' := [(1, .int (x1 + (1 : Int32))), (2, .int (((2 : Int32) * x2) + (1 : Int32))), (0, .int x0)]) hx hb dX0_flat_21 hl (k := 2) rfl rfl (by decide) rfl (fun ls hl => ?_)
          refine lv_goto (tgt := 4) hx hb dX0_flat_24 (by decide) ?_
          exact ih4 _ _ x0 (x1 + (1 : Int32)) (((2 : Int32) * x2) + (1 : Int32)) ls hP hS (lv_sub hl [2, 0, 1] rfl) hf
  unfold fX0_flat at hf
  refine lv_iconst (v := (0 : Int32)) hx hb dX0_flat_0 (by decide) ?_
  refine lv_istore_n (lv' := [(1, .int ((0 : Int32))), (0, .int x0)]) hx hb dX0_flat_1 rfl hl (by decide) rfl (fun ls hl => ?_)
  refine lv_iconst (v := (0 : Int32)) hx hb dX0_flat_2 (by decide) ?_
  refine lv_istore_n (lv' := [(2, .int ((0 : Int32))), (1, .int ((0 : Int32))), (0, .int x0)]) hx hb dX0_flat_3 rfl hl (by decide) rfl (fun ls hl => ?_)
  exact blk4 F _ _ x0 (0 : Int32) (0 : Int32) ls hP hS (lv_sub hl [2, 1, 0] rfl) hf
def fX0_fewestOfRank (F : Nat) (x0 : Int32) : Option (Int32) := if x0 = 0 then (some (2 : Int32)) else (some (((2 : Int32) * x0) + (1 : Int32)))
abbrev rX0_fewestOfRank : Room := { frames := 0, cells := 0, slots := 0, locals := 0 }
theorem wX0_fewestOfRank : kF yX0_fewestOfRank cX0_fewestOfRank 1 (some .int) 1 := ⟨kCO_yX0_fewestOfRank, kSM_yX0_fewestOfRank, kIN_RX0, by decide +kernel, by decide +kernel, by decide +kernel⟩
set_option maxHeartbeats 4000000 in
set_option maxRecDepth 100000 in
theorem tX0_fewestOfRank {l : Launch} {D : va_G} {cI cT cM : ClassId} {ad : Nat → Nat} (hD : gInj 167 ad) {F : Nat} {σ : Sig} {x0 : Int32} {res : Int32} (hf : fX0_fewestOfRank F x0 = some res) : CTi l yX0_fewestOfRank cX0_fewestOfRank 1 .int rX0_fewestOfRank D (cTy cI cT cM) (gA 167 ad) [.int x0] (cw cI cT cM ad σ) res (cw cI cT cM ad σ) := by
  refine ct_int (by decide) (Nat.le_of_ble_eq_true rfl) ?_
  intro p e s m args below meth c Q ls hx hb hml hown ht hX hret hP hS hl
  have hl : lv_has ls 1 [(0, .int x0)] := hl
  unfold fX0_fewestOfRank at hf
  refine lv_iload_n hx hb dX0_fewestOfRank_0 rfl (lv_at hl 0 rfl) ?_
  refine lv_if_ne (tgt := 8) hx hb dX0_fewestOfRank_1 (by decide) (fun hc1 => ?_) (fun hc1 => ?_)
  · rw [if_neg hc1] at hf
    refine lv_iconst (v := (2 : Int32)) hx hb dX0_fewestOfRank_8 (by decide) ?_
    refine lv_iload_n hx hb dX0_fewestOfRank_9 rfl (lv_at hl 0 rfl) ?_
    refine lv_imul hx hb dX0_fewestOfRank_10 ?_
    refine lv_iconst (v := (1 : Int32)) hx hb dX0_fewestOfRank_11 (by decide) ?_
    refine lv_iadd hx hb dX0_fewestOfRank_12 ?_
    have e0 := Option.some.inj hf
    subst e0
    exact hret _ _ _ _ hP hS dX0_fewestOfRank_13
  · rw [if_pos hc1] at hf
    refine lv_iconst (v := (2 : Int32)) hx hb dX0_fewestOfRank_4 (by decide) ?_
    refine lv_goto (tgt := 13) hx hb dX0_fewestOfRank_5 (by decide) ?_
    have e0 := Option.some.inj hf
    subst e0
    exact hret _ _ _ _ hP hS dX0_fewestOfRank_13
def fX0_tall_9 (F : Nat) : Nat → Int32 → Int32 → Int32 → Int32 → Int32 → Option (Int32)
  | 0, _, _, _, _, _ => none
  | n + 1, x0, x1, x2, x3, x4 => if (60 : Int32) ≤ x1 then (some x1) else (if x0 < x2 then (some x1) else ((fX0_fewestOfRank F x3).bind fun q3 => (fX0_tall_9 F n x0 (x1 + (1 : Int32)) (x2 + ((1 : Int32) + x3)) x4 q3)))
def fX0_tall (F : Nat) (x0 : Int32) : Option (Int32) := fX0_tall_9 F F x0 (0 : Int32) (1 : Int32) (0 : Int32) (1 : Int32)
abbrev rX0_tall : Room := { frames := 1, cells := 0, slots := 0, locals := 20 }
theorem wX0_tall : kF yX0_tall cX0_tall 6 (some .int) 1 := ⟨kCO_yX0_tall, kSM_yX0_tall, kIN_RX0, by decide +kernel, by decide +kernel, by decide +kernel⟩
set_option maxHeartbeats 4000000 in
set_option maxRecDepth 100000 in
theorem tX0_tall {l : Launch} {D : va_G} {cI cT cM : ClassId} {ad : Nat → Nat} (hD : gInj 167 ad) {F : Nat} {σ : Sig} {x0 : Int32} {res : Int32} (hf : fX0_tall F x0 = some res) : CTi l yX0_tall cX0_tall 6 .int rX0_tall D (cTy cI cT cM) (gA 167 ad) [.int x0] (cw cI cT cM ad σ) res (cw cI cT cM ad σ) := by
  refine ct_int (by decide) (Nat.le_of_ble_eq_true rfl) ?_
  intro p e s m args below meth c Q ls hx hb hml hown ht hX hret hP hS hl
  have hl : lv_has ls 6 [(0, .int x0)] := hl
  have blk9 : ∀ (n9 : Nat) (H : Heap) (locs : List Loc) (x0 : Int32) (x1 : Int32) (x2 : Int32) (x3 : Int32) (x4 : Int32) (ls : Array Slot), va_P D vwCl (cw cI cT cM ad σ) H → va_S (gA 167 ad) s.heap H locs → lv_has ls 6 [(0, .int x0), (1, .int x1), (2, .int x2), (3, .int x3), (4, .int x4)] → fX0_tall_9 F n9 x0 x1 x2 x3 x4 = some res → W p l e rX0_tall s m args below meth c H locs 0 0 Q (F0 m 9 ls []) := by
    intro n9
    induction n9 with
    | zero =>
      intro H locs x0 x1 x2 x3 x4 ls hP hS hl hf
      rw [fX0_tall_9] at hf
      cases hf
    | succ n9 ih9 =>
      skip
      intro H locs x0 x1 x2 x3 x4 ls hP hS hl hf
      rw [fX0_tall_9] at hf
      refine lv_iload_n hx hb dX0_tall_9 rfl (lv_at hl 1 rfl) ?_
      refine lv_bipush (v := (60 : Int32)) hx hb dX0_tall_10 (by decide) ?_
      refine lv_icmp_ge (tgt := 45) hx hb dX0_tall_12 (by decide) (fun hc1 => ?_) (fun hc1 => ?_)
      · rw [if_pos hc1] at hf
        refine lv_iload_n hx hb dX0_tall_45 rfl (lv_at hl 1 rfl) ?_
        have e0 := Option.some.inj hf
        subst e0
        exact hret _ _ _ _ hP hS dX0_tall_46
      · rw [if_neg hc1] at hf
        refine lv_iload_n hx hb dX0_tall_15 rfl (lv_at hl 2 rfl) ?_
        refine lv_iload_n hx hb dX0_tall_16 rfl (lv_at hl 0 rfl) ?_
        refine lv_icmp_gt (tgt := 45) hx hb dX0_tall_17 (by decide) (fun hc2 => ?_) (fun hc2 => ?_)
        · rw [if_pos hc2] at hf
          refine lv_iload_n hx hb dX0_tall_45 rfl (lv_at hl 1 rfl) ?_
          have e0 := Option.some.inj hf
          subst e0
          exact hret _ _ _ _ hP hS dX0_tall_46
        · rw [if_neg hc2] at hf
          refine lv_iinc (v := x1 + (1 : Int32)) (lv' := [(1, .int (x1 + (1 : Int32))), (0, .int x0), (2, .int x2), (3, .int x3), (4, .int x4)]) hx hb dX0_tall_20 hl (k := 1) rfl rfl (by decide) rfl (fun ls hl => ?_)
          refine lv_iload_n hx hb dX0_tall_23 rfl (lv_at hl 2 rfl) ?_
          refine lv_iconst (v := (1 : Int32)) hx hb dX0_tall_24 (by decide) ?_
          refine lv_iload_n hx hb dX0_tall_25 rfl (lv_at hl 3 rfl) ?_
          refine lv_iadd hx hb dX0_tall_26 ?_
          refine lv_iadd hx hb dX0_tall_27 ?_
          refine lv_istore_n (lv' := [(2, .int (x2 + ((1 : Int32) + x3))), (1, .int (x1 + (1 : Int32))), (0, .int x0), (3, .int x3), (4, .int x4)]) hx hb dX0_tall_28 rfl hl (by decide) rfl (fun ls hl => ?_)
          refine lv_iload_n hx hb dX0_tall_29 rfl (lv_at hl 3 rfl) ?_
          obtain ⟨q3, hq3, hf⟩ := obE hf
          refine ct_cSi (rest := []) (tX0_fewestOfRank hD hq3) hx hb hml hown ht hX hP hS wX0_fewestOfRank kML_RX0_9 rfl rfl ⟨Nat.le_of_ble_eq_true rfl, Nat.le_of_ble_eq_true rfl⟩ rfl hl.1 rfl (Nat.le_of_ble_eq_true rfl) dX0_tall_30 (fun H locs hP hS => ?_)
          refine lv_istore (lv' := [(5, .int q3), (2, .int (x2 + ((1 : Int32) + x3))), (1, .int (x1 + (1 : Int32))), (0, .int x0), (3, .int x3), (4, .int x4)]) hx hb dX0_tall_33 hl (by decide) rfl (fun ls hl => ?_)
          refine lv_iload hx hb dX0_tall_35 (lv_at hl 5 rfl) ?_
          refine lv_istore_n (lv' := [(3, .int x4), (5, .int q3), (2, .int (x2 + ((1 : Int32) + x3))), (1, .int (x1 + (1 : Int32))), (0, .int x0), (4, .int x4)]) hx hb dX0_tall_37 rfl hl (by decide) rfl (fun ls hl => ?_)
          refine lv_iload hx hb dX0_tall_38 (lv_at hl 1 rfl) ?_
          refine lv_istore (lv' := [(4, .int q3), (3, .int x4), (5, .int q3), (2, .int (x2 + ((1 : Int32) + x3))), (1, .int (x1 + (1 : Int32))), (0, .int x0)]) hx hb dX0_tall_40 hl (by decide) rfl (fun ls hl => ?_)
          refine lv_goto (tgt := 9) hx hb dX0_tall_42 (by decide) ?_
          exact ih9 _ _ x0 (x1 + (1 : Int32)) (x2 + ((1 : Int32) + x3)) x4 q3 ls hP hS (lv_sub hl [5, 4, 3, 1, 0] rfl) hf
  unfold fX0_tall at hf
  refine lv_iconst (v := (0 : Int32)) hx hb dX0_tall_0 (by decide) ?_
  refine lv_istore_n (lv' := [(1, .int ((0 : Int32))), (0, .int x0)]) hx hb dX0_tall_1 rfl hl (by decide) rfl (fun ls hl => ?_)
  refine lv_iconst (v := (1 : Int32)) hx hb dX0_tall_2 (by decide) ?_
  refine lv_istore_n (lv' := [(2, .int ((1 : Int32))), (1, .int ((0 : Int32))), (0, .int x0)]) hx hb dX0_tall_3 rfl hl (by decide) rfl (fun ls hl => ?_)
  refine lv_iconst (v := (0 : Int32)) hx hb dX0_tall_4 (by decide) ?_
  refine lv_istore_n (lv' := [(3, .int ((0 : Int32))), (2, .int ((1 : Int32))), (1, .int ((0 : Int32))), (0, .int x0)]) hx hb dX0_tall_5 rfl hl (by decide) rfl (fun ls hl => ?_)
  refine lv_iconst (v := (1 : Int32)) hx hb dX0_tall_6 (by decide) ?_
  refine lv_istore (lv' := [(4, .int ((1 : Int32))), (3, .int ((0 : Int32))), (2, .int ((1 : Int32))), (1, .int ((0 : Int32))), (0, .int x0)]) hx hb dX0_tall_7 hl (by decide) rfl (fun ls hl => ?_)
  exact blk9 F _ _ x0 (0 : Int32) (1 : Int32) (0 : Int32) (1 : Int32) ls hP hS (lv_sub hl [4, 3, 2, 1, 0] rfl) hf
def fX1_clear (F : Nat) (τ : Tau) (a : Nat) : Option (Tau) := some (u2 (u2 (u2 τ a 0 (0 : Int32)) a 1 (0 : Int32)) a 2 (0 : Int32))
abbrev rX1_clear : Room := { frames := 0, cells := 0, slots := 0, locals := 0 }
theorem wX1_clear : kV yX1_clear cX1_clear 1 none 0 := ⟨kCO_yX1_clear, kIM_yX1_clear, kSE_yX1_clear, kIN_RX1, by decide +kernel, by decide +kernel, by decide +kernel⟩
set_option maxHeartbeats 4000000 in
set_option maxRecDepth 100000 in
theorem tX1_clear {l : Launch} {D : va_G} {cI cT cM : ClassId} {ad : Nat → Nat} (hD : gInj 167 ad) {F : Nat} {σ : Sig} {i : Nat} (hi : i < 16) {a : Nat} (ha : a = 7 ∨ a = 8) {τ : Tau} {res : Tau} (hf : fX1_clear F τ a = some res) : CTv l yX1_clear cX1_clear 1 rX1_clear D (cTy cI cT cM) (gA 167 ad) [.ref (ad (10 * i + (1 + a)))] (cw cI cT cM ad (u3 σ i τ)) (cw cI cT cM ad (u3 σ i res)) := by
  refine ct_void (by decide) (Nat.le_of_ble_eq_true rfl) ?_
  intro p e s m args below meth c Q ls hx hb hml hown ht hX hret hP hS hl
  have hl : lv_has ls 1 [(0, .ref (ad (10 * i + (1 + a))))] := hl
  unfold fX1_clear at hf
  refine lv_aload_n hx hb dX1_clear_0 rfl (lv_at hl 0 rfl) ?_
  refine lv_iconst (v := (0 : Int32)) hx hb dX1_clear_1 (by decide) ?_
  refine cr_putC hD hx hb ht hown hX hP hS hi ha (Or.inl ⟨rfl, rfl⟩) kFL_RX1_7 dX1_clear_2 (fun H locs hP hS => ?_)
  refine lv_aload_n hx hb dX1_clear_5 rfl (lv_at hl 0 rfl) ?_
  refine lv_iconst (v := (0 : Int32)) hx hb dX1_clear_6 (by decide) ?_
  refine cr_putC hD hx hb ht hown hX hP hS hi ha (Or.inr (Or.inl ⟨rfl, rfl⟩)) kFL_RX1_13 dX1_clear_7 (fun H locs hP hS => ?_)
  refine lv_aload_n hx hb dX1_clear_10 rfl (lv_at hl 0 rfl) ?_
  refine lv_iconst (v := (0 : Int32)) hx hb dX1_clear_11 (by decide) ?_
  refine cr_putC hD hx hb ht hown hX hP hS hi ha (Or.inr (Or.inr ⟨rfl, rfl⟩)) kFL_RX1_16 dX1_clear_12 (fun H locs hP hS => ?_)
  have e0 := Option.some.inj hf
  subst e0
  exact hret _ _ _ _ hP hS dX1_clear_15
def fX1_copyFrom (F : Nat) (τ : Tau) (τ2 : Tau) (a : Nat) : Option (Tau) := some (u2 (u2 (u2 τ a 0 (τ2 a 0)) a 1 (τ2 a 1)) a 2 (τ2 a 2))
abbrev rX1_copyFrom : Room := { frames := 0, cells := 0, slots := 0, locals := 0 }
theorem wX1_copyFrom : kV yX1_copyFrom cX1_copyFrom 2 none 1 := ⟨kCO_yX1_copyFrom, kIM_yX1_copyFrom, kSE_yX1_copyFrom, kIN_RX1, by decide +kernel, by decide +kernel, by decide +kernel⟩
set_option maxHeartbeats 4000000 in
set_option maxRecDepth 100000 in
theorem tX1_copyFrom {l : Launch} {D : va_G} {cI cT cM : ClassId} {ad : Nat → Nat} (hD : gInj 167 ad) {F : Nat} {σ : Sig} {i : Nat} (hi : i < 16) {j : Nat} (hj : j < 16) (hij : j ≠ i) {a : Nat} (ha : a = 7 ∨ a = 8) {τ : Tau} {res : Tau} (hf : fX1_copyFrom F τ (σ j) a = some res) : CTv l yX1_copyFrom cX1_copyFrom 2 rX1_copyFrom D (cTy cI cT cM) (gA 167 ad) [.ref (ad (10 * i + (1 + a))), .ref (ad (10 * j + (1 + a)))] (cw cI cT cM ad (u3 σ i τ)) (cw cI cT cM ad (u3 σ i res)) := by
  refine ct_void (by decide) (Nat.le_of_ble_eq_true rfl) ?_
  intro p e s m args below meth c Q ls hx hb hml hown ht hX hret hP hS hl
  have hl : lv_has ls 2 [(0, .ref (ad (10 * i + (1 + a)))), (1, .ref (ad (10 * j + (1 + a))))] := hl
  unfold fX1_copyFrom at hf
  refine lv_aload_n hx hb dX1_copyFrom_0 rfl (lv_at hl 0 rfl) ?_
  refine lv_aload_n hx hb dX1_copyFrom_1 rfl (lv_at hl 1 rfl) ?_
  refine va_get (ci := 0) (v := .int ((σ j) a 0)) hx hb ht i_X1 hown hX.1 hP (10 * j + (1 + a)) (c2_cnt hj hij ha) rfl 0 (by decide) (ht _ kFL_RX1_7) (fun _ h9 => h9) rfl dX1_copyFrom_2 ?_
  refine cr_putC hD hx hb ht hown hX hP hS hi ha (Or.inl ⟨rfl, rfl⟩) kFL_RX1_7 dX1_copyFrom_5 (fun H locs hP hS => ?_)
  refine lv_aload_n hx hb dX1_copyFrom_8 rfl (lv_at hl 0 rfl) ?_
  refine lv_aload_n hx hb dX1_copyFrom_9 rfl (lv_at hl 1 rfl) ?_
  refine va_get (ci := 0) (v := .int ((σ j) a 1)) hx hb ht i_X1 hown hX.1 hP (10 * j + (1 + a)) (c2_cnt hj hij ha) rfl 1 (by decide) (ht _ kFL_RX1_13) (fun _ h9 => h9) rfl dX1_copyFrom_10 ?_
  refine cr_putC hD hx hb ht hown hX hP hS hi ha (Or.inr (Or.inl ⟨rfl, rfl⟩)) kFL_RX1_13 dX1_copyFrom_13 (fun H locs hP hS => ?_)
  refine lv_aload_n hx hb dX1_copyFrom_16 rfl (lv_at hl 0 rfl) ?_
  refine lv_aload_n hx hb dX1_copyFrom_17 rfl (lv_at hl 1 rfl) ?_
  refine va_get (ci := 0) (v := .int ((σ j) a 2)) hx hb ht i_X1 hown hX.1 hP (10 * j + (1 + a)) (c2_cnt hj hij ha) rfl 2 (by decide) (ht _ kFL_RX1_16) (fun _ h9 => h9) rfl dX1_copyFrom_18 ?_
  refine cr_putC hD hx hb ht hown hX hP hS hi ha (Or.inr (Or.inr ⟨rfl, rfl⟩)) kFL_RX1_16 dX1_copyFrom_21 (fun H locs hP hS => ?_)
  have e0 := Option.some.inj hf
  subst e0
  exact hret _ _ _ _ hP hS dX1_copyFrom_24
def fX1_add (F : Nat) (τ : Tau) (a : Nat) (b : Nat) : Option (Tau) := some (u2 (u2 (u2 τ a 0 ((τ a 0) + (τ b 0))) a 1 (((u2 τ a 0 ((τ a 0) + (τ b 0))) a 1) + ((u2 τ a 0 ((τ a 0) + (τ b 0))) b 1))) a 2 (((u2 (u2 τ a 0 ((τ a 0) + (τ b 0))) a 1 (((u2 τ a 0 ((τ a 0) + (τ b 0))) a 1) + ((u2 τ a 0 ((τ a 0) + (τ b 0))) b 1))) a 2) + ((u2 (u2 τ a 0 ((τ a 0) + (τ b 0))) a 1 (((u2 τ a 0 ((τ a 0) + (τ b 0))) a 1) + ((u2 τ a 0 ((τ a 0) + (τ b 0))) b 1))) b 2)))
abbrev rX1_add : Room := { frames := 0, cells := 0, slots := 0, locals := 0 }
theorem wX1_add : kV yX1_add cX1_add 2 none 1 := ⟨kCO_yX1_add, kIM_yX1_add, kSE_yX1_add, kIN_RX1, by decide +kernel, by decide +kernel, by decide +kernel⟩
set_option maxHeartbeats 4000000 in
set_option maxRecDepth 100000 in
theorem tX1_add {l : Launch} {D : va_G} {cI cT cM : ClassId} {ad : Nat → Nat} (hD : gInj 167 ad) {F : Nat} {σ : Sig} {i : Nat} (hi : i < 16) {a : Nat} (ha : a = 7 ∨ a = 8) {b : Nat} (hb2 : b = 7 ∨ b = 8) {τ : Tau} {res : Tau} (hf : fX1_add F τ a b = some res) : CTv l yX1_add cX1_add 2 rX1_add D (cTy cI cT cM) (gA 167 ad) [.ref (ad (10 * i + (1 + a))), .ref (ad (10 * i + (1 + b)))] (cw cI cT cM ad (u3 σ i τ)) (cw cI cT cM ad (u3 σ i res)) := by
  refine ct_void (by decide) (Nat.le_of_ble_eq_true rfl) ?_
  intro p e s m args below meth c Q ls hx hb hml hown ht hX hret hP hS hl
  have hl : lv_has ls 2 [(0, .ref (ad (10 * i + (1 + a)))), (1, .ref (ad (10 * i + (1 + b))))] := hl
  unfold fX1_add at hf
  refine lv_aload_n hx hb dX1_add_0 rfl (lv_at hl 0 rfl) ?_
  refine lv_dup hx hb dX1_add_1 rfl ?_
  refine va_get (ci := 0) (v := .int (τ a 0)) hx hb ht i_X1 hown hX.1 hP (10 * i + (1 + a)) (ct_cnt hi ha) rfl 0 (by decide) (ht _ kFL_RX1_7) (fun _ h9 => h9) rfl dX1_add_2 ?_
  refine lv_aload_n hx hb dX1_add_5 rfl (lv_at hl 1 rfl) ?_
  refine va_get (ci := 0) (v := .int (τ b 0)) hx hb ht i_X1 hown hX.1 hP (10 * i + (1 + b)) (ct_cnt hi hb2) rfl 0 (by decide) (ht _ kFL_RX1_7) (fun _ h9 => h9) rfl dX1_add_6 ?_
  refine lv_iadd hx hb dX1_add_9 ?_
  refine cr_putC hD hx hb ht hown hX hP hS hi ha (Or.inl ⟨rfl, rfl⟩) kFL_RX1_7 dX1_add_10 (fun H locs hP hS => ?_)
  refine lv_aload_n hx hb dX1_add_13 rfl (lv_at hl 0 rfl) ?_
  refine lv_dup hx hb dX1_add_14 rfl ?_
  refine va_get (ci := 0) (v := .int ((u2 τ a 0 ((τ a 0) + (τ b 0))) a 1)) hx hb ht i_X1 hown hX.1 hP (10 * i + (1 + a)) (ct_cnt hi ha) rfl 1 (by decide) (ht _ kFL_RX1_13) (fun _ h9 => h9) rfl dX1_add_15 ?_
  refine lv_aload_n hx hb dX1_add_18 rfl (lv_at hl 1 rfl) ?_
  refine va_get (ci := 0) (v := .int ((u2 τ a 0 ((τ a 0) + (τ b 0))) b 1)) hx hb ht i_X1 hown hX.1 hP (10 * i + (1 + b)) (ct_cnt hi hb2) rfl 1 (by decide) (ht _ kFL_RX1_13) (fun _ h9 => h9) rfl dX1_add_19 ?_
  refine lv_iadd hx hb dX1_add_22 ?_
  refine cr_putC hD hx hb ht hown hX hP hS hi ha (Or.inr (Or.inl ⟨rfl, rfl⟩)) kFL_RX1_13 dX1_add_23 (fun H locs hP hS => ?_)
  refine lv_aload_n hx hb dX1_add_26 rfl (lv_at hl 0 rfl) ?_
  refine lv_dup hx hb dX1_add_27 rfl ?_
  refine va_get (ci := 0) (v := .int ((u2 (u2 τ a 0 ((τ a 0) + (τ b 0))) a 1 (((u2 τ a 0 ((τ a 0) + (τ b 0))) a 1) + ((u2 τ a 0 ((τ a 0) + (τ b 0))) b 1))) a 2)) hx hb ht i_X1 hown hX.1 hP (10 * i + (1 + a)) (ct_cnt hi ha) rfl 2 (by decide) (ht _ kFL_RX1_16) (fun _ h9 => h9) rfl dX1_add_28 ?_
  refine lv_aload_n hx hb dX1_add_31 rfl (lv_at hl 1 rfl) ?_
  refine va_get (ci := 0) (v := .int ((u2 (u2 τ a 0 ((τ a 0) + (τ b 0))) a 1 (((u2 τ a 0 ((τ a 0) + (τ b 0))) a 1) + ((u2 τ a 0 ((τ a 0) + (τ b 0))) b 1))) b 2)) hx hb ht i_X1 hown hX.1 hP (10 * i + (1 + b)) (ct_cnt hi hb2) rfl 2 (by decide) (ht _ kFL_RX1_16) (fun _ h9 => h9) rfl dX1_add_32 ?_
  refine lv_iadd hx hb dX1_add_35 ?_
  refine cr_putC hD hx hb ht hown hX hP hS hi ha (Or.inr (Or.inr ⟨rfl, rfl⟩)) kFL_RX1_16 dX1_add_36 (fun H locs hP hS => ?_)
  have e0 := Option.some.inj hf
  subst e0
  exact hret _ _ _ _ hP hS dX1_add_39
def fX1_together (F : Nat) (τ : Tau) (a : Nat) : Option (Int32) := some (((τ a 0) + (τ a 1)) + (τ a 2))
abbrev rX1_together : Room := { frames := 0, cells := 0, slots := 0, locals := 0 }
theorem wX1_together : kV yX1_together cX1_together 1 (some .int) 0 := ⟨kCO_yX1_together, kIM_yX1_together, kSE_yX1_together, kIN_RX1, by decide +kernel, by decide +kernel, by decide +kernel⟩
set_option maxHeartbeats 4000000 in
set_option maxRecDepth 100000 in
theorem tX1_together {l : Launch} {D : va_G} {cI cT cM : ClassId} {ad : Nat → Nat} (hD : gInj 167 ad) {F : Nat} {σ : Sig} {i : Nat} (hi : i < 16) {a : Nat} (ha : a = 7 ∨ a = 8) {τ : Tau} {res : Int32} (hf : fX1_together F τ a = some res) : CTi l yX1_together cX1_together 1 .int rX1_together D (cTy cI cT cM) (gA 167 ad) [.ref (ad (10 * i + (1 + a)))] (cw cI cT cM ad (u3 σ i τ)) res (cw cI cT cM ad (u3 σ i τ)) := by
  refine ct_int (by decide) (Nat.le_of_ble_eq_true rfl) ?_
  intro p e s m args below meth c Q ls hx hb hml hown ht hX hret hP hS hl
  have hl : lv_has ls 1 [(0, .ref (ad (10 * i + (1 + a))))] := hl
  unfold fX1_together at hf
  refine lv_aload_n hx hb dX1_together_0 rfl (lv_at hl 0 rfl) ?_
  refine va_get (ci := 0) (v := .int (τ a 0)) hx hb ht i_X1 hown hX.1 hP (10 * i + (1 + a)) (ct_cnt hi ha) rfl 0 (by decide) (ht _ kFL_RX1_7) (fun _ h9 => h9) rfl dX1_together_1 ?_
  refine lv_aload_n hx hb dX1_together_4 rfl (lv_at hl 0 rfl) ?_
  refine va_get (ci := 0) (v := .int (τ a 1)) hx hb ht i_X1 hown hX.1 hP (10 * i + (1 + a)) (ct_cnt hi ha) rfl 1 (by decide) (ht _ kFL_RX1_13) (fun _ h9 => h9) rfl dX1_together_5 ?_
  refine lv_iadd hx hb dX1_together_8 ?_
  refine lv_aload_n hx hb dX1_together_9 rfl (lv_at hl 0 rfl) ?_
  refine va_get (ci := 0) (v := .int (τ a 2)) hx hb ht i_X1 hown hX.1 hP (10 * i + (1 + a)) (ct_cnt hi ha) rfl 2 (by decide) (ht _ kFL_RX1_16) (fun _ h9 => h9) rfl dX1_together_10 ?_
  refine lv_iadd hx hb dX1_together_13 ?_
  have e0 := Option.some.inj hf
  subst e0
  exact hret _ _ _ _ hP hS dX1_together_14
def fJ7_fill_53178_5 (F : Nat) (a : Nat) : Nat → Tau → Int32 → Int32 → Int32 → Option (Tau)
  | 0, _, _, _, _ => none
  | n + 1, τ, x1, x2, x3 => if x3 ≤ x2 then (some τ) else (if x2 < 0 ∨ 60 ≤ x2.toNatClampNeg then none else (fJ7_fill_53178_5 F a n (u2 τ a x2.toNatClampNeg x1) x1 (x2 + (1 : Int32)) x3))
def fJ7_fill_53178 (F : Nat) (τ : Tau) (a : Nat) (x1 : Int32) : Option (Tau) := fJ7_fill_53178_5 F a F τ x1 (0 : Int32) (60 : Int32)
abbrev rJ7_fill_53178 : Room := { frames := 0, cells := 0, slots := 0, locals := 0 }
theorem wJ7_fill_53178 : kF yJ7_fill_53178 cJ7_fill_53178 4 none 2 := ⟨kCO_yJ7_fill_53178, kSM_yJ7_fill_53178, kIN_RJ7, by decide +kernel, by decide +kernel, by decide +kernel⟩
set_option maxHeartbeats 4000000 in
set_option maxRecDepth 100000 in
theorem tJ7_fill_53178 {l : Launch} {D : va_G} {cI cT cM : ClassId} {ad : Nat → Nat} (hD : gInj 167 ad) {F : Nat} {σ : Sig} {i : Nat} (hi : i < 16) {a : Nat} (ha : a < 6) {τ : Tau} {x1 : Int32} {res : Tau} (hf : fJ7_fill_53178 F τ a x1 = some res) : CTv l yJ7_fill_53178 cJ7_fill_53178 4 rJ7_fill_53178 D (cTy cI cT cM) (gA 167 ad) [.ref (ad (10 * i + (2 + a))), .int x1] (cw cI cT cM ad (u3 σ i τ)) (cw cI cT cM ad (u3 σ i res)) := by
  refine ct_void (by decide) (Nat.le_of_ble_eq_true rfl) ?_
  intro p e s m args below meth c Q ls hx hb hml hown ht hX hret hP hS hl
  have hl : lv_has ls 4 [(0, .ref (ad (10 * i + (2 + a)))), (1, .int x1)] := hl
  have blk5 : ∀ (n5 : Nat) (H : Heap) (locs : List Loc) (τ : Tau) (x1 : Int32) (x2 : Int32) (x3 : Int32) (ls : Array Slot), va_P D vwCl (cw cI cT cM ad (u3 σ i τ)) H → va_S (gA 167 ad) s.heap H locs → lv_has ls 4 [(0, .ref (ad (10 * i + (2 + a)))), (1, .int x1), (2, .int x2), (3, .int x3)] → fJ7_fill_53178_5 F a n5 τ x1 x2 x3 = some res → W p l e rJ7_fill_53178 s m args below meth c H locs 0 0 Q (F0 m 5 ls []) := by
    intro n5
    induction n5 with
    | zero =>
      intro H locs τ x1 x2 x3 ls hP hS hl hf
      rw [fJ7_fill_53178_5] at hf
      cases hf
    | succ n5 ih5 =>
      skip
      intro H locs τ x1 x2 x3 ls hP hS hl hf
      rw [fJ7_fill_53178_5] at hf
      refine lv_iload_n hx hb dJ7_fill_53178_5 rfl (lv_at hl 2 rfl) ?_
      refine lv_iload_n hx hb dJ7_fill_53178_6 rfl (lv_at hl 3 rfl) ?_
      refine lv_icmp_ge (tgt := 20) hx hb dJ7_fill_53178_7 (by decide) (fun hc1 => ?_) (fun hc1 => ?_)
      · rw [if_pos hc1] at hf
        have e0 := Option.some.inj hf
        subst e0
        exact hret _ _ _ _ hP hS dJ7_fill_53178_20
      · rw [if_neg hc1] at hf
        refine lv_aload_n hx hb dJ7_fill_53178_10 rfl (lv_at hl 0 rfl) ?_
        refine lv_iload_n hx hb dJ7_fill_53178_11 rfl (lv_at hl 2 rfl) ?_
        refine lv_iload_n hx hb dJ7_fill_53178_12 rfl (lv_at hl 1 rfl) ?_
        obtain ⟨hn2, hf⟩ := ngE _ hf
        refine cr_iast hD hx hb hX hP hS hi ha hn2 dJ7_fill_53178_13 (fun H locs hP hS => ?_)
        refine lv_iinc (v := x2 + (1 : Int32)) (lv' := [(2, .int (x2 + (1 : Int32))), (0, .ref (ad (10 * i + (2 + a)))), (1, .int x1), (3, .int x3)]) hx hb dJ7_fill_53178_14 hl (k := 2) rfl rfl (by decide) rfl (fun ls hl => ?_)
        refine lv_goto (tgt := 5) hx hb dJ7_fill_53178_17 (by decide) ?_
        exact ih5 _ _ (u2 τ a x2.toNatClampNeg x1) x1 (x2 + (1 : Int32)) x3 ls hP hS (lv_sub hl [1, 2, 0, 3] rfl) hf
  unfold fJ7_fill_53178 at hf
  refine lv_iconst (v := (0 : Int32)) hx hb dJ7_fill_53178_0 (by decide) ?_
  refine lv_istore_n (lv' := [(2, .int ((0 : Int32))), (0, .ref (ad (10 * i + (2 + a)))), (1, .int x1)]) hx hb dJ7_fill_53178_1 rfl hl (by decide) rfl (fun ls hl => ?_)
  refine lv_aload_n hx hb dJ7_fill_53178_2 rfl (lv_at hl 1 rfl) ?_
  refine va_alen hx hb hX.1 hP (10 * i + (2 + a)) 0 (ct_arr hi ha) rfl (v := (60 : Int32)) rfl dJ7_fill_53178_3 ?_
  refine lv_istore_n (lv' := [(3, .int ((60 : Int32))), (2, .int ((0 : Int32))), (0, .ref (ad (10 * i + (2 + a)))), (1, .int x1)]) hx hb dJ7_fill_53178_4 rfl hl (by decide) rfl (fun ls hl => ?_)
  exact blk5 F _ _ τ x1 (0 : Int32) (60 : Int32) ls hP hS (lv_sub hl [2, 3, 1, 0] rfl) hf
def fX4_clear (F : Nat) (τ : Tau) : Option (Tau) := (fJ7_fill_53178 F τ 0 (-1 : Int32)).bind fun q1 => (some (u2 (u2 q1 6 0 (-1 : Int32)) 6 1 (0 : Int32)))
abbrev rX4_clear : Room := { frames := 1, cells := 0, slots := 0, locals := 23 }
theorem wX4_clear : kV yX4_clear cX4_clear 1 none 0 := ⟨kCO_yX4_clear, kIM_yX4_clear, kSE_yX4_clear, kIN_RX4, by decide +kernel, by decide +kernel, by decide +kernel⟩
set_option maxHeartbeats 4000000 in
set_option maxRecDepth 100000 in
theorem tX4_clear {l : Launch} {D : va_G} {cI cT cM : ClassId} {ad : Nat → Nat} (hD : gInj 167 ad) {F : Nat} {σ : Sig} {i : Nat} (hi : i < 16) {τ : Tau} {res : Tau} (hf : fX4_clear F τ = some res) : CTv l yX4_clear cX4_clear 1 rX4_clear D (cTy cI cT cM) (gA 167 ad) [.ref (ad (10 * i + 1))] (cw cI cT cM ad (u3 σ i τ)) (cw cI cT cM ad (u3 σ i res)) := by
  refine ct_void (by decide) (Nat.le_of_ble_eq_true rfl) ?_
  intro p e s m args below meth c Q ls hx hb hml hown ht hX hret hP hS hl
  have hl : lv_has ls 1 [(0, .ref (ad (10 * i + 1)))] := hl
  unfold fX4_clear at hf
  refine lv_aload_n hx hb dX4_clear_0 rfl (lv_at hl 0 rfl) ?_
  refine va_get (ci := 3) (v := .ref (ad (10 * i + (2 + 0)))) hx hb ht i_X4 hown hX.1 hP (10 * i + 1) (ct_nodes hi) rfl 0 (by decide) (ht _ kFL_RX4_9) (fun _ h9 => h9) rfl dX4_clear_1 ?_
  refine lv_iconst (v := (-1 : Int32)) hx hb dX4_clear_4 (by decide) ?_
  obtain ⟨q1, hq1, hf⟩ := obE hf
  refine ct_cSv (rest := []) (tJ7_fill_53178 hD hi (by decide) hq1) hx hb hml hown ht hX hP hS wJ7_fill_53178 kML_RX4_37 rfl rfl ⟨Nat.le_of_ble_eq_true rfl, Nat.le_of_ble_eq_true rfl⟩ rfl hl.1 rfl (Nat.le_of_ble_eq_true rfl) dX4_clear_5 (fun H locs hP hS => ?_)
  refine lv_aload_n hx hb dX4_clear_8 rfl (lv_at hl 0 rfl) ?_
  refine lv_iconst (v := (-1 : Int32)) hx hb dX4_clear_9 (by decide) ?_
  refine cr_putTop hD hx hb ht hown hX hP hS hi kFL_RX4_30 dX4_clear_10 (fun H locs hP hS => ?_)
  refine lv_aload_n hx hb dX4_clear_13 rfl (lv_at hl 0 rfl) ?_
  refine lv_iconst (v := (0 : Int32)) hx hb dX4_clear_14 (by decide) ?_
  refine cr_putCount hD hx hb ht hown hX hP hS hi kFL_RX4_34 dX4_clear_15 (fun H locs hP hS => ?_)
  have e0 := Option.some.inj hf
  subst e0
  exact hret _ _ _ _ hP hS dX4_clear_18
def fX4_copyFrom (F : Nat) (τ : Tau) (τ2 : Tau) : Option (Tau) := some (u2 (u2 (u1 (u1 (u1 (u1 (u1 (u1 τ 0 (va_cpy (τ2 0) (τ 0) 0 0 60)) 1 (va_cpy (τ2 1) ((u1 τ 0 (va_cpy (τ2 0) (τ 0) 0 0 60)) 1) 0 0 60)) 2 (va_cpy (τ2 2) ((u1 (u1 τ 0 (va_cpy (τ2 0) (τ 0) 0 0 60)) 1 (va_cpy (τ2 1) ((u1 τ 0 (va_cpy (τ2 0) (τ 0) 0 0 60)) 1) 0 0 60)) 2) 0 0 60)) 3 (va_cpy (τ2 3) ((u1 (u1 (u1 τ 0 (va_cpy (τ2 0) (τ 0) 0 0 60)) 1 (va_cpy (τ2 1) ((u1 τ 0 (va_cpy (τ2 0) (τ 0) 0 0 60)) 1) 0 0 60)) 2 (va_cpy (τ2 2) ((u1 (u1 τ 0 (va_cpy (τ2 0) (τ 0) 0 0 60)) 1 (va_cpy (τ2 1) ((u1 τ 0 (va_cpy (τ2 0) (τ 0) 0 0 60)) 1) 0 0 60)) 2) 0 0 60)) 3) 0 0 60)) 4 (va_cpy (τ2 4) ((u1 (u1 (u1 (u1 τ 0 (va_cpy (τ2 0) (τ 0) 0 0 60)) 1 (va_cpy (τ2 1) ((u1 τ 0 (va_cpy (τ2 0) (τ 0) 0 0 60)) 1) 0 0 60)) 2 (va_cpy (τ2 2) ((u1 (u1 τ 0 (va_cpy (τ2 0) (τ 0) 0 0 60)) 1 (va_cpy (τ2 1) ((u1 τ 0 (va_cpy (τ2 0) (τ 0) 0 0 60)) 1) 0 0 60)) 2) 0 0 60)) 3 (va_cpy (τ2 3) ((u1 (u1 (u1 τ 0 (va_cpy (τ2 0) (τ 0) 0 0 60)) 1 (va_cpy (τ2 1) ((u1 τ 0 (va_cpy (τ2 0) (τ 0) 0 0 60)) 1) 0 0 60)) 2 (va_cpy (τ2 2) ((u1 (u1 τ 0 (va_cpy (τ2 0) (τ 0) 0 0 60)) 1 (va_cpy (τ2 1) ((u1 τ 0 (va_cpy (τ2 0) (τ 0) 0 0 60)) 1) 0 0 60)) 2) 0 0 60)) 3) 0 0 60)) 4) 0 0 60)) 5 (va_cpy (τ2 5) ((u1 (u1 (u1 (u1 (u1 τ 0 (va_cpy (τ2 0) (τ 0) 0 0 60)) 1 (va_cpy (τ2 1) ((u1 τ 0 (va_cpy (τ2 0) (τ 0) 0 0 60)) 1) 0 0 60)) 2 (va_cpy (τ2 2) ((u1 (u1 τ 0 (va_cpy (τ2 0) (τ 0) 0 0 60)) 1 (va_cpy (τ2 1) ((u1 τ 0 (va_cpy (τ2 0) (τ 0) 0 0 60)) 1) 0 0 60)) 2) 0 0 60)) 3 (va_cpy (τ2 3) ((u1 (u1 (u1 τ 0 (va_cpy (τ2 0) (τ 0) 0 0 60)) 1 (va_cpy (τ2 1) ((u1 τ 0 (va_cpy (τ2 0) (τ 0) 0 0 60)) 1) 0 0 60)) 2 (va_cpy (τ2 2) ((u1 (u1 τ 0 (va_cpy (τ2 0) (τ 0) 0 0 60)) 1 (va_cpy (τ2 1) ((u1 τ 0 (va_cpy (τ2 0) (τ 0) 0 0 60)) 1) 0 0 60)) 2) 0 0 60)) 3) 0 0 60)) 4 (va_cpy (τ2 4) ((u1 (u1 (u1 (u1 τ 0 (va_cpy (τ2 0) (τ 0) 0 0 60)) 1 (va_cpy (τ2 1) ((u1 τ 0 (va_cpy (τ2 0) (τ 0) 0 0 60)) 1) 0 0 60)) 2 (va_cpy (τ2 2) ((u1 (u1 τ 0 (va_cpy (τ2 0) (τ 0) 0 0 60)) 1 (va_cpy (τ2 1) ((u1 τ 0 (va_cpy (τ2 0) (τ 0) 0 0 60)) 1) 0 0 60)) 2) 0 0 60)) 3 (va_cpy (τ2 3) ((u1 (u1 (u1 τ 0 (va_cpy (τ2 0) (τ 0) 0 0 60)) 1 (va_cpy (τ2 1) ((u1 τ 0 (va_cpy (τ2 0) (τ 0) 0 0 60)) 1) 0 0 60)) 2 (va_cpy (τ2 2) ((u1 (u1 τ 0 (va_cpy (τ2 0) (τ 0) 0 0 60)) 1 (va_cpy (τ2 1) ((u1 τ 0 (va_cpy (τ2 0) (τ 0) 0 0 60)) 1) 0 0 60)) 2) 0 0 60)) 3) 0 0 60)) 4) 0 0 60)) 5) 0 0 60)) 6 0 (τ2 6 0)) 6 1 (τ2 6 1))
abbrev rX4_copyFrom : Room := { frames := 1, cells := 0, slots := 0, locals := 60 }
theorem wX4_copyFrom : kV yX4_copyFrom cX4_copyFrom 2 none 1 := ⟨kCO_yX4_copyFrom, kIM_yX4_copyFrom, kSE_yX4_copyFrom, kIN_RX4, by decide +kernel, by decide +kernel, by decide +kernel⟩
set_option maxHeartbeats 4000000 in
set_option maxRecDepth 100000 in
theorem tX4_copyFrom {l : Launch} {D : va_G} {cI cT cM : ClassId} {ad : Nat → Nat} (hD : gInj 167 ad) {F : Nat} {σ : Sig} {i : Nat} (hi : i < 16) {j : Nat} (hj : j < 16) (hij : j ≠ i) {τ : Tau} {res : Tau} (hf : fX4_copyFrom F τ (σ j) = some res) : CTv l yX4_copyFrom cX4_copyFrom 2 rX4_copyFrom D (cTy cI cT cM) (gA 167 ad) [.ref (ad (10 * i + 1)), .ref (ad (10 * j + 1))] (cw cI cT cM ad (u3 σ i τ)) (cw cI cT cM ad (u3 σ i res)) := by
  refine ct_void (by decide) (Nat.le_of_ble_eq_true rfl) ?_
  intro p e s m args below meth c Q ls hx hb hml hown ht hX hret hP hS hl
  have hl : lv_has ls 2 [(0, .ref (ad (10 * i + 1))), (1, .ref (ad (10 * j + 1)))] := hl
  unfold fX4_copyFrom at hf
  refine lv_aload_n hx hb dX4_copyFrom_0 rfl (lv_at hl 1 rfl) ?_
  refine va_get (ci := 3) (v := .ref (ad (10 * j + (2 + 0)))) hx hb ht i_X4 hown hX.1 hP (10 * j + 1) (c2_nodes hj hij) rfl 0 (by decide) (ht _ kFL_RX4_9) (fun _ h9 => h9) rfl dX4_copyFrom_1 ?_
  refine lv_iconst (v := (0 : Int32)) hx hb dX4_copyFrom_4 (by decide) ?_
  refine lv_aload_n hx hb dX4_copyFrom_5 rfl (lv_at hl 0 rfl) ?_
  refine va_get (ci := 3) (v := .ref (ad (10 * i + (2 + 0)))) hx hb ht i_X4 hown hX.1 hP (10 * i + 1) (ct_nodes hi) rfl 0 (by decide) (ht _ kFL_RX4_9) (fun _ h9 => h9) rfl dX4_copyFrom_6 ?_
  refine lv_iconst (v := (0 : Int32)) hx hb dX4_copyFrom_9 (by decide) ?_
  refine lv_bipush (v := (60 : Int32)) hx hb dX4_copyFrom_10 (by decide) ?_
  refine cr_copy hD hx hb (hml.trans hl.1.symm) ht hown hX hP hS hi hj hij (by decide) kML_RX4_43 (Nat.le_of_ble_eq_true rfl) (Nat.le_of_ble_eq_true rfl) dX4_copyFrom_12 (fun H locs hP hS => ?_)
  refine lv_aload_n hx hb dX4_copyFrom_15 rfl (lv_at hl 1 rfl) ?_
  refine va_get (ci := 3) (v := .ref (ad (10 * j + (2 + 1)))) hx hb ht i_X4 hown hX.1 hP (10 * j + 1) (c2_nodes hj hij) rfl 1 (by decide) (ht _ kFL_RX4_15) (fun _ h9 => h9) rfl dX4_copyFrom_16 ?_
  refine lv_iconst (v := (0 : Int32)) hx hb dX4_copyFrom_19 (by decide) ?_
  refine lv_aload_n hx hb dX4_copyFrom_20 rfl (lv_at hl 0 rfl) ?_
  refine va_get (ci := 3) (v := .ref (ad (10 * i + (2 + 1)))) hx hb ht i_X4 hown hX.1 hP (10 * i + 1) (ct_nodes hi) rfl 1 (by decide) (ht _ kFL_RX4_15) (fun _ h9 => h9) rfl dX4_copyFrom_21 ?_
  refine lv_iconst (v := (0 : Int32)) hx hb dX4_copyFrom_24 (by decide) ?_
  refine lv_bipush (v := (60 : Int32)) hx hb dX4_copyFrom_25 (by decide) ?_
  refine cr_copy hD hx hb (hml.trans hl.1.symm) ht hown hX hP hS hi hj hij (by decide) kML_RX4_43 (Nat.le_of_ble_eq_true rfl) (Nat.le_of_ble_eq_true rfl) dX4_copyFrom_27 (fun H locs hP hS => ?_)
  refine lv_aload_n hx hb dX4_copyFrom_30 rfl (lv_at hl 1 rfl) ?_
  refine va_get (ci := 3) (v := .ref (ad (10 * j + (2 + 2)))) hx hb ht i_X4 hown hX.1 hP (10 * j + 1) (c2_nodes hj hij) rfl 2 (by decide) (ht _ kFL_RX4_18) (fun _ h9 => h9) rfl dX4_copyFrom_31 ?_
  refine lv_iconst (v := (0 : Int32)) hx hb dX4_copyFrom_34 (by decide) ?_
  refine lv_aload_n hx hb dX4_copyFrom_35 rfl (lv_at hl 0 rfl) ?_
  refine va_get (ci := 3) (v := .ref (ad (10 * i + (2 + 2)))) hx hb ht i_X4 hown hX.1 hP (10 * i + 1) (ct_nodes hi) rfl 2 (by decide) (ht _ kFL_RX4_18) (fun _ h9 => h9) rfl dX4_copyFrom_36 ?_
  refine lv_iconst (v := (0 : Int32)) hx hb dX4_copyFrom_39 (by decide) ?_
  refine lv_bipush (v := (60 : Int32)) hx hb dX4_copyFrom_40 (by decide) ?_
  refine cr_copy hD hx hb (hml.trans hl.1.symm) ht hown hX hP hS hi hj hij (by decide) kML_RX4_43 (Nat.le_of_ble_eq_true rfl) (Nat.le_of_ble_eq_true rfl) dX4_copyFrom_42 (fun H locs hP hS => ?_)
  refine lv_aload_n hx hb dX4_copyFrom_45 rfl (lv_at hl 1 rfl) ?_
  refine va_get (ci := 3) (v := .ref (ad (10 * j + (2 + 3)))) hx hb ht i_X4 hown hX.1 hP (10 * j + 1) (c2_nodes hj hij) rfl 3 (by decide) (ht _ kFL_RX4_21) (fun _ h9 => h9) rfl dX4_copyFrom_46 ?_
  refine lv_iconst (v := (0 : Int32)) hx hb dX4_copyFrom_49 (by decide) ?_
  refine lv_aload_n hx hb dX4_copyFrom_50 rfl (lv_at hl 0 rfl) ?_
  refine va_get (ci := 3) (v := .ref (ad (10 * i + (2 + 3)))) hx hb ht i_X4 hown hX.1 hP (10 * i + 1) (ct_nodes hi) rfl 3 (by decide) (ht _ kFL_RX4_21) (fun _ h9 => h9) rfl dX4_copyFrom_51 ?_
  refine lv_iconst (v := (0 : Int32)) hx hb dX4_copyFrom_54 (by decide) ?_
  refine lv_bipush (v := (60 : Int32)) hx hb dX4_copyFrom_55 (by decide) ?_
  refine cr_copy hD hx hb (hml.trans hl.1.symm) ht hown hX hP hS hi hj hij (by decide) kML_RX4_43 (Nat.le_of_ble_eq_true rfl) (Nat.le_of_ble_eq_true rfl) dX4_copyFrom_57 (fun H locs hP hS => ?_)
  refine lv_aload_n hx hb dX4_copyFrom_60 rfl (lv_at hl 1 rfl) ?_
  refine va_get (ci := 3) (v := .ref (ad (10 * j + (2 + 4)))) hx hb ht i_X4 hown hX.1 hP (10 * j + 1) (c2_nodes hj hij) rfl 4 (by decide) (ht _ kFL_RX4_24) (fun _ h9 => h9) rfl dX4_copyFrom_61 ?_
  refine lv_iconst (v := (0 : Int32)) hx hb dX4_copyFrom_64 (by decide) ?_
  refine lv_aload_n hx hb dX4_copyFrom_65 rfl (lv_at hl 0 rfl) ?_
  refine va_get (ci := 3) (v := .ref (ad (10 * i + (2 + 4)))) hx hb ht i_X4 hown hX.1 hP (10 * i + 1) (ct_nodes hi) rfl 4 (by decide) (ht _ kFL_RX4_24) (fun _ h9 => h9) rfl dX4_copyFrom_66 ?_
  refine lv_iconst (v := (0 : Int32)) hx hb dX4_copyFrom_69 (by decide) ?_
  refine lv_bipush (v := (60 : Int32)) hx hb dX4_copyFrom_70 (by decide) ?_
  refine cr_copy hD hx hb (hml.trans hl.1.symm) ht hown hX hP hS hi hj hij (by decide) kML_RX4_43 (Nat.le_of_ble_eq_true rfl) (Nat.le_of_ble_eq_true rfl) dX4_copyFrom_72 (fun H locs hP hS => ?_)
  refine lv_aload_n hx hb dX4_copyFrom_75 rfl (lv_at hl 1 rfl) ?_
  refine va_get (ci := 3) (v := .ref (ad (10 * j + (2 + 5)))) hx hb ht i_X4 hown hX.1 hP (10 * j + 1) (c2_nodes hj hij) rfl 5 (by decide) (ht _ kFL_RX4_27) (fun _ h9 => h9) rfl dX4_copyFrom_76 ?_
  refine lv_iconst (v := (0 : Int32)) hx hb dX4_copyFrom_79 (by decide) ?_
  refine lv_aload_n hx hb dX4_copyFrom_80 rfl (lv_at hl 0 rfl) ?_
  refine va_get (ci := 3) (v := .ref (ad (10 * i + (2 + 5)))) hx hb ht i_X4 hown hX.1 hP (10 * i + 1) (ct_nodes hi) rfl 5 (by decide) (ht _ kFL_RX4_27) (fun _ h9 => h9) rfl dX4_copyFrom_81 ?_
  refine lv_iconst (v := (0 : Int32)) hx hb dX4_copyFrom_84 (by decide) ?_
  refine lv_bipush (v := (60 : Int32)) hx hb dX4_copyFrom_85 (by decide) ?_
  refine cr_copy hD hx hb (hml.trans hl.1.symm) ht hown hX hP hS hi hj hij (by decide) kML_RX4_43 (Nat.le_of_ble_eq_true rfl) (Nat.le_of_ble_eq_true rfl) dX4_copyFrom_87 (fun H locs hP hS => ?_)
  refine lv_aload_n hx hb dX4_copyFrom_90 rfl (lv_at hl 0 rfl) ?_
  refine lv_aload_n hx hb dX4_copyFrom_91 rfl (lv_at hl 1 rfl) ?_
  refine va_get (ci := 3) (v := .int ((σ j) 6 0)) hx hb ht i_X4 hown hX.1 hP (10 * j + 1) (c2_nodes hj hij) rfl 6 (by decide) (ht _ kFL_RX4_30) (fun _ h9 => h9) rfl dX4_copyFrom_92 ?_
  refine cr_putTop hD hx hb ht hown hX hP hS hi kFL_RX4_30 dX4_copyFrom_95 (fun H locs hP hS => ?_)
  refine lv_aload_n hx hb dX4_copyFrom_98 rfl (lv_at hl 0 rfl) ?_
  refine lv_aload_n hx hb dX4_copyFrom_99 rfl (lv_at hl 1 rfl) ?_
  refine va_get (ci := 3) (v := .int ((σ j) 6 1)) hx hb ht i_X4 hown hX.1 hP (10 * j + 1) (c2_nodes hj hij) rfl 7 (by decide) (ht _ kFL_RX4_34) (fun _ h9 => h9) rfl dX4_copyFrom_100 ?_
  refine cr_putCount hD hx hb ht hown hX hP hS hi kFL_RX4_34 dX4_copyFrom_103 (fun H locs hP hS => ?_)
  have e0 := Option.some.inj hf
  subst e0
  exact hret _ _ _ _ hP hS dX4_copyFrom_106
def fX4_keyOf (F : Nat) (τ : Tau) (x1 : Int32) : Option (Int32) := if x1 < 0 then (some (-1 : Int32)) else (if x1 < (60 : Int32) then (if x1 < 0 ∨ 60 ≤ x1.toNatClampNeg then none else (some (τ 0 x1.toNatClampNeg))) else (some (-1 : Int32)))
abbrev rX4_keyOf : Room := { frames := 0, cells := 0, slots := 0, locals := 0 }
theorem wX4_keyOf : kV yX4_keyOf cX4_keyOf 2 (some .int) 1 := ⟨kCO_yX4_keyOf, kIM_yX4_keyOf, kSE_yX4_keyOf, kIN_RX4, by decide +kernel, by decide +kernel, by decide +kernel⟩
set_option maxHeartbeats 4000000 in
set_option maxRecDepth 100000 in
theorem tX4_keyOf {l : Launch} {D : va_G} {cI cT cM : ClassId} {ad : Nat → Nat} (hD : gInj 167 ad) {F : Nat} {σ : Sig} {i : Nat} (hi : i < 16) {τ : Tau} {x1 : Int32} {res : Int32} (hf : fX4_keyOf F τ x1 = some res) : CTi l yX4_keyOf cX4_keyOf 2 .int rX4_keyOf D (cTy cI cT cM) (gA 167 ad) [.ref (ad (10 * i + 1)), .int x1] (cw cI cT cM ad (u3 σ i τ)) res (cw cI cT cM ad (u3 σ i τ)) := by
  refine ct_int (by decide) (Nat.le_of_ble_eq_true rfl) ?_
  intro p e s m args below meth c Q ls hx hb hml hown ht hX hret hP hS hl
  have hl : lv_has ls 2 [(0, .ref (ad (10 * i + 1))), (1, .int x1)] := hl
  unfold fX4_keyOf at hf
  refine lv_iload_n hx hb dX4_keyOf_0 rfl (lv_at hl 1 rfl) ?_
  refine lv_if_lt (tgt := 10) hx hb dX4_keyOf_1 (by decide) (fun hc1 => ?_) (fun hc1 => ?_)
  · rw [if_pos hc1] at hf
    refine lv_iconst (v := (-1 : Int32)) hx hb dX4_keyOf_10 (by decide) ?_
    refine lv_goto (tgt := 20) hx hb dX4_keyOf_11 (by decide) ?_
    have e0 := Option.some.inj hf
    subst e0
    exact hret _ _ _ _ hP hS dX4_keyOf_20
  · rw [if_neg hc1] at hf
    refine lv_iload_n hx hb dX4_keyOf_4 rfl (lv_at hl 1 rfl) ?_
    refine lv_bipush (v := (60 : Int32)) hx hb dX4_keyOf_5 (by decide) ?_
    refine lv_icmp_lt (tgt := 14) hx hb dX4_keyOf_7 (by decide) (fun hc2 => ?_) (fun hc2 => ?_)
    · rw [if_pos hc2] at hf
      refine lv_aload_n hx hb dX4_keyOf_14 rfl (lv_at hl 0 rfl) ?_
      refine va_get (ci := 3) (v := .ref (ad (10 * i + (2 + 0)))) hx hb ht i_X4 hown hX.1 hP (10 * i + 1) (ct_nodes hi) rfl 0 (by decide) (ht _ kFL_RX4_9) (fun _ h9 => h9) rfl dX4_keyOf_15 ?_
      refine lv_iload_n hx hb dX4_keyOf_18 rfl (lv_at hl 1 rfl) ?_
      obtain ⟨hn3, hf⟩ := ngE _ hf
      refine cr_ild hx hb hX hP hi (by decide) hn3 dX4_keyOf_19 ?_
      have e0 := Option.some.inj hf
      subst e0
      exact hret _ _ _ _ hP hS dX4_keyOf_20
    · rw [if_neg hc2] at hf
      refine lv_iconst (v := (-1 : Int32)) hx hb dX4_keyOf_10 (by decide) ?_
      refine lv_goto (tgt := 20) hx hb dX4_keyOf_11 (by decide) ?_
      have e0 := Option.some.inj hf
      subst e0
      exact hret _ _ _ _ hP hS dX4_keyOf_20
def fX4_worthOf (F : Nat) (τ : Tau) (x1 : Int32) : Option (Int32) := if x1 < 0 then (some (0 : Int32)) else (if x1 < (60 : Int32) then (if x1 < 0 ∨ 60 ≤ x1.toNatClampNeg then none else (some (τ 1 x1.toNatClampNeg))) else (some (0 : Int32)))
abbrev rX4_worthOf : Room := { frames := 0, cells := 0, slots := 0, locals := 0 }
theorem wX4_worthOf : kV yX4_worthOf cX4_worthOf 2 (some .int) 1 := ⟨kCO_yX4_worthOf, kIM_yX4_worthOf, kSE_yX4_worthOf, kIN_RX4, by decide +kernel, by decide +kernel, by decide +kernel⟩
set_option maxHeartbeats 4000000 in
set_option maxRecDepth 100000 in
theorem tX4_worthOf {l : Launch} {D : va_G} {cI cT cM : ClassId} {ad : Nat → Nat} (hD : gInj 167 ad) {F : Nat} {σ : Sig} {i : Nat} (hi : i < 16) {τ : Tau} {x1 : Int32} {res : Int32} (hf : fX4_worthOf F τ x1 = some res) : CTi l yX4_worthOf cX4_worthOf 2 .int rX4_worthOf D (cTy cI cT cM) (gA 167 ad) [.ref (ad (10 * i + 1)), .int x1] (cw cI cT cM ad (u3 σ i τ)) res (cw cI cT cM ad (u3 σ i τ)) := by
  refine ct_int (by decide) (Nat.le_of_ble_eq_true rfl) ?_
  intro p e s m args below meth c Q ls hx hb hml hown ht hX hret hP hS hl
  have hl : lv_has ls 2 [(0, .ref (ad (10 * i + 1))), (1, .int x1)] := hl
  unfold fX4_worthOf at hf
  refine lv_iload_n hx hb dX4_worthOf_0 rfl (lv_at hl 1 rfl) ?_
  refine lv_if_lt (tgt := 10) hx hb dX4_worthOf_1 (by decide) (fun hc1 => ?_) (fun hc1 => ?_)
  · rw [if_pos hc1] at hf
    refine lv_iconst (v := (0 : Int32)) hx hb dX4_worthOf_10 (by decide) ?_
    refine lv_goto (tgt := 20) hx hb dX4_worthOf_11 (by decide) ?_
    have e0 := Option.some.inj hf
    subst e0
    exact hret _ _ _ _ hP hS dX4_worthOf_20
  · rw [if_neg hc1] at hf
    refine lv_iload_n hx hb dX4_worthOf_4 rfl (lv_at hl 1 rfl) ?_
    refine lv_bipush (v := (60 : Int32)) hx hb dX4_worthOf_5 (by decide) ?_
    refine lv_icmp_lt (tgt := 14) hx hb dX4_worthOf_7 (by decide) (fun hc2 => ?_) (fun hc2 => ?_)
    · rw [if_pos hc2] at hf
      refine lv_aload_n hx hb dX4_worthOf_14 rfl (lv_at hl 0 rfl) ?_
      refine va_get (ci := 3) (v := .ref (ad (10 * i + (2 + 1)))) hx hb ht i_X4 hown hX.1 hP (10 * i + 1) (ct_nodes hi) rfl 1 (by decide) (ht _ kFL_RX4_15) (fun _ h9 => h9) rfl dX4_worthOf_15 ?_
      refine lv_iload_n hx hb dX4_worthOf_18 rfl (lv_at hl 1 rfl) ?_
      obtain ⟨hn3, hf⟩ := ngE _ hf
      refine cr_ild hx hb hX hP hi (by decide) hn3 dX4_worthOf_19 ?_
      have e0 := Option.some.inj hf
      subst e0
      exact hret _ _ _ _ hP hS dX4_worthOf_20
    · rw [if_neg hc2] at hf
      refine lv_iconst (v := (0 : Int32)) hx hb dX4_worthOf_10 (by decide) ?_
      refine lv_goto (tgt := 20) hx hb dX4_worthOf_11 (by decide) ?_
      have e0 := Option.some.inj hf
      subst e0
      exact hret _ _ _ _ hP hS dX4_worthOf_20
def fX4_rankOf (F : Nat) (τ : Tau) (x1 : Int32) : Option (Int32) := if x1 < 0 then (some (-1 : Int32)) else (if x1 < (60 : Int32) then (if x1 < 0 ∨ 60 ≤ x1.toNatClampNeg then none else (some (τ 2 x1.toNatClampNeg))) else (some (-1 : Int32)))
abbrev rX4_rankOf : Room := { frames := 0, cells := 0, slots := 0, locals := 0 }
theorem wX4_rankOf : kV yX4_rankOf cX4_rankOf 2 (some .int) 1 := ⟨kCO_yX4_rankOf, kIM_yX4_rankOf, kSE_yX4_rankOf, kIN_RX4, by decide +kernel, by decide +kernel, by decide +kernel⟩
set_option maxHeartbeats 4000000 in
set_option maxRecDepth 100000 in
theorem tX4_rankOf {l : Launch} {D : va_G} {cI cT cM : ClassId} {ad : Nat → Nat} (hD : gInj 167 ad) {F : Nat} {σ : Sig} {i : Nat} (hi : i < 16) {τ : Tau} {x1 : Int32} {res : Int32} (hf : fX4_rankOf F τ x1 = some res) : CTi l yX4_rankOf cX4_rankOf 2 .int rX4_rankOf D (cTy cI cT cM) (gA 167 ad) [.ref (ad (10 * i + 1)), .int x1] (cw cI cT cM ad (u3 σ i τ)) res (cw cI cT cM ad (u3 σ i τ)) := by
  refine ct_int (by decide) (Nat.le_of_ble_eq_true rfl) ?_
  intro p e s m args below meth c Q ls hx hb hml hown ht hX hret hP hS hl
  have hl : lv_has ls 2 [(0, .ref (ad (10 * i + 1))), (1, .int x1)] := hl
  unfold fX4_rankOf at hf
  refine lv_iload_n hx hb dX4_rankOf_0 rfl (lv_at hl 1 rfl) ?_
  refine lv_if_lt (tgt := 10) hx hb dX4_rankOf_1 (by decide) (fun hc1 => ?_) (fun hc1 => ?_)
  · rw [if_pos hc1] at hf
    refine lv_iconst (v := (-1 : Int32)) hx hb dX4_rankOf_10 (by decide) ?_
    refine lv_goto (tgt := 20) hx hb dX4_rankOf_11 (by decide) ?_
    have e0 := Option.some.inj hf
    subst e0
    exact hret _ _ _ _ hP hS dX4_rankOf_20
  · rw [if_neg hc1] at hf
    refine lv_iload_n hx hb dX4_rankOf_4 rfl (lv_at hl 1 rfl) ?_
    refine lv_bipush (v := (60 : Int32)) hx hb dX4_rankOf_5 (by decide) ?_
    refine lv_icmp_lt (tgt := 14) hx hb dX4_rankOf_7 (by decide) (fun hc2 => ?_) (fun hc2 => ?_)
    · rw [if_pos hc2] at hf
      refine lv_aload_n hx hb dX4_rankOf_14 rfl (lv_at hl 0 rfl) ?_
      refine va_get (ci := 3) (v := .ref (ad (10 * i + (2 + 2)))) hx hb ht i_X4 hown hX.1 hP (10 * i + 1) (ct_nodes hi) rfl 2 (by decide) (ht _ kFL_RX4_18) (fun _ h9 => h9) rfl dX4_rankOf_15 ?_
      refine lv_iload_n hx hb dX4_rankOf_18 rfl (lv_at hl 1 rfl) ?_
      obtain ⟨hn3, hf⟩ := ngE _ hf
      refine cr_ild hx hb hX hP hi (by decide) hn3 dX4_rankOf_19 ?_
      have e0 := Option.some.inj hf
      subst e0
      exact hret _ _ _ _ hP hS dX4_rankOf_20
    · rw [if_neg hc2] at hf
      refine lv_iconst (v := (-1 : Int32)) hx hb dX4_rankOf_10 (by decide) ?_
      refine lv_goto (tgt := 20) hx hb dX4_rankOf_11 (by decide) ?_
      have e0 := Option.some.inj hf
      subst e0
      exact hret _ _ _ _ hP hS dX4_rankOf_20
def fX4_leftOf (F : Nat) (τ : Tau) (x1 : Int32) : Option (Int32) := if x1 < 0 then (some (-1 : Int32)) else (if x1 < (60 : Int32) then (if x1 < 0 ∨ 60 ≤ x1.toNatClampNeg then none else (some (τ 3 x1.toNatClampNeg))) else (some (-1 : Int32)))
abbrev rX4_leftOf : Room := { frames := 0, cells := 0, slots := 0, locals := 0 }
theorem wX4_leftOf : kV yX4_leftOf cX4_leftOf 2 (some .int) 1 := ⟨kCO_yX4_leftOf, kIM_yX4_leftOf, kSE_yX4_leftOf, kIN_RX4, by decide +kernel, by decide +kernel, by decide +kernel⟩
set_option maxHeartbeats 4000000 in
set_option maxRecDepth 100000 in
theorem tX4_leftOf {l : Launch} {D : va_G} {cI cT cM : ClassId} {ad : Nat → Nat} (hD : gInj 167 ad) {F : Nat} {σ : Sig} {i : Nat} (hi : i < 16) {τ : Tau} {x1 : Int32} {res : Int32} (hf : fX4_leftOf F τ x1 = some res) : CTi l yX4_leftOf cX4_leftOf 2 .int rX4_leftOf D (cTy cI cT cM) (gA 167 ad) [.ref (ad (10 * i + 1)), .int x1] (cw cI cT cM ad (u3 σ i τ)) res (cw cI cT cM ad (u3 σ i τ)) := by
  refine ct_int (by decide) (Nat.le_of_ble_eq_true rfl) ?_
  intro p e s m args below meth c Q ls hx hb hml hown ht hX hret hP hS hl
  have hl : lv_has ls 2 [(0, .ref (ad (10 * i + 1))), (1, .int x1)] := hl
  unfold fX4_leftOf at hf
  refine lv_iload_n hx hb dX4_leftOf_0 rfl (lv_at hl 1 rfl) ?_
  refine lv_if_lt (tgt := 10) hx hb dX4_leftOf_1 (by decide) (fun hc1 => ?_) (fun hc1 => ?_)
  · rw [if_pos hc1] at hf
    refine lv_iconst (v := (-1 : Int32)) hx hb dX4_leftOf_10 (by decide) ?_
    refine lv_goto (tgt := 20) hx hb dX4_leftOf_11 (by decide) ?_
    have e0 := Option.some.inj hf
    subst e0
    exact hret _ _ _ _ hP hS dX4_leftOf_20
  · rw [if_neg hc1] at hf
    refine lv_iload_n hx hb dX4_leftOf_4 rfl (lv_at hl 1 rfl) ?_
    refine lv_bipush (v := (60 : Int32)) hx hb dX4_leftOf_5 (by decide) ?_
    refine lv_icmp_lt (tgt := 14) hx hb dX4_leftOf_7 (by decide) (fun hc2 => ?_) (fun hc2 => ?_)
    · rw [if_pos hc2] at hf
      refine lv_aload_n hx hb dX4_leftOf_14 rfl (lv_at hl 0 rfl) ?_
      refine va_get (ci := 3) (v := .ref (ad (10 * i + (2 + 3)))) hx hb ht i_X4 hown hX.1 hP (10 * i + 1) (ct_nodes hi) rfl 3 (by decide) (ht _ kFL_RX4_21) (fun _ h9 => h9) rfl dX4_leftOf_15 ?_
      refine lv_iload_n hx hb dX4_leftOf_18 rfl (lv_at hl 1 rfl) ?_
      obtain ⟨hn3, hf⟩ := ngE _ hf
      refine cr_ild hx hb hX hP hi (by decide) hn3 dX4_leftOf_19 ?_
      have e0 := Option.some.inj hf
      subst e0
      exact hret _ _ _ _ hP hS dX4_leftOf_20
    · rw [if_neg hc2] at hf
      refine lv_iconst (v := (-1 : Int32)) hx hb dX4_leftOf_10 (by decide) ?_
      refine lv_goto (tgt := 20) hx hb dX4_leftOf_11 (by decide) ?_
      have e0 := Option.some.inj hf
      subst e0
      exact hret _ _ _ _ hP hS dX4_leftOf_20
def fX4_rightOf (F : Nat) (τ : Tau) (x1 : Int32) : Option (Int32) := if x1 < 0 then (some (-1 : Int32)) else (if x1 < (60 : Int32) then (if x1 < 0 ∨ 60 ≤ x1.toNatClampNeg then none else (some (τ 4 x1.toNatClampNeg))) else (some (-1 : Int32)))
abbrev rX4_rightOf : Room := { frames := 0, cells := 0, slots := 0, locals := 0 }
theorem wX4_rightOf : kV yX4_rightOf cX4_rightOf 2 (some .int) 1 := ⟨kCO_yX4_rightOf, kIM_yX4_rightOf, kSE_yX4_rightOf, kIN_RX4, by decide +kernel, by decide +kernel, by decide +kernel⟩
set_option maxHeartbeats 4000000 in
set_option maxRecDepth 100000 in
theorem tX4_rightOf {l : Launch} {D : va_G} {cI cT cM : ClassId} {ad : Nat → Nat} (hD : gInj 167 ad) {F : Nat} {σ : Sig} {i : Nat} (hi : i < 16) {τ : Tau} {x1 : Int32} {res : Int32} (hf : fX4_rightOf F τ x1 = some res) : CTi l yX4_rightOf cX4_rightOf 2 .int rX4_rightOf D (cTy cI cT cM) (gA 167 ad) [.ref (ad (10 * i + 1)), .int x1] (cw cI cT cM ad (u3 σ i τ)) res (cw cI cT cM ad (u3 σ i τ)) := by
  refine ct_int (by decide) (Nat.le_of_ble_eq_true rfl) ?_
  intro p e s m args below meth c Q ls hx hb hml hown ht hX hret hP hS hl
  have hl : lv_has ls 2 [(0, .ref (ad (10 * i + 1))), (1, .int x1)] := hl
  unfold fX4_rightOf at hf
  refine lv_iload_n hx hb dX4_rightOf_0 rfl (lv_at hl 1 rfl) ?_
  refine lv_if_lt (tgt := 10) hx hb dX4_rightOf_1 (by decide) (fun hc1 => ?_) (fun hc1 => ?_)
  · rw [if_pos hc1] at hf
    refine lv_iconst (v := (-1 : Int32)) hx hb dX4_rightOf_10 (by decide) ?_
    refine lv_goto (tgt := 20) hx hb dX4_rightOf_11 (by decide) ?_
    have e0 := Option.some.inj hf
    subst e0
    exact hret _ _ _ _ hP hS dX4_rightOf_20
  · rw [if_neg hc1] at hf
    refine lv_iload_n hx hb dX4_rightOf_4 rfl (lv_at hl 1 rfl) ?_
    refine lv_bipush (v := (60 : Int32)) hx hb dX4_rightOf_5 (by decide) ?_
    refine lv_icmp_lt (tgt := 14) hx hb dX4_rightOf_7 (by decide) (fun hc2 => ?_) (fun hc2 => ?_)
    · rw [if_pos hc2] at hf
      refine lv_aload_n hx hb dX4_rightOf_14 rfl (lv_at hl 0 rfl) ?_
      refine va_get (ci := 3) (v := .ref (ad (10 * i + (2 + 4)))) hx hb ht i_X4 hown hX.1 hP (10 * i + 1) (ct_nodes hi) rfl 4 (by decide) (ht _ kFL_RX4_24) (fun _ h9 => h9) rfl dX4_rightOf_15 ?_
      refine lv_iload_n hx hb dX4_rightOf_18 rfl (lv_at hl 1 rfl) ?_
      obtain ⟨hn3, hf⟩ := ngE _ hf
      refine cr_ild hx hb hX hP hi (by decide) hn3 dX4_rightOf_19 ?_
      have e0 := Option.some.inj hf
      subst e0
      exact hret _ _ _ _ hP hS dX4_rightOf_20
    · rw [if_neg hc2] at hf
      refine lv_iconst (v := (-1 : Int32)) hx hb dX4_rightOf_10 (by decide) ?_
      refine lv_goto (tgt := 20) hx hb dX4_rightOf_11 (by decide) ?_
      have e0 := Option.some.inj hf
      subst e0
      exact hret _ _ _ _ hP hS dX4_rightOf_20
def fX4_childOf (F : Nat) (τ : Tau) (x1 : Int32) (x2 : Int32) : Option (Int32) := if x1 < 0 then (some (-1 : Int32)) else (if x1 < (60 : Int32) then (if x2 = 0 then (if x1 < 0 ∨ 60 ≤ x1.toNatClampNeg then none else (some (τ 4 x1.toNatClampNeg))) else (if x1 < 0 ∨ 60 ≤ x1.toNatClampNeg then none else (some (τ 3 x1.toNatClampNeg)))) else (some (-1 : Int32)))
abbrev rX4_childOf : Room := { frames := 0, cells := 0, slots := 0, locals := 0 }
theorem wX4_childOf : kV yX4_childOf cX4_childOf 3 (some .int) 2 := ⟨kCO_yX4_childOf, kIM_yX4_childOf, kSE_yX4_childOf, kIN_RX4, by decide +kernel, by decide +kernel, by decide +kernel⟩
set_option maxHeartbeats 4000000 in
set_option maxRecDepth 100000 in
theorem tX4_childOf {l : Launch} {D : va_G} {cI cT cM : ClassId} {ad : Nat → Nat} (hD : gInj 167 ad) {F : Nat} {σ : Sig} {i : Nat} (hi : i < 16) {τ : Tau} {x1 : Int32} {x2 : Int32} {res : Int32} (hf : fX4_childOf F τ x1 x2 = some res) : CTi l yX4_childOf cX4_childOf 3 .int rX4_childOf D (cTy cI cT cM) (gA 167 ad) [.ref (ad (10 * i + 1)), .int x1, .int x2] (cw cI cT cM ad (u3 σ i τ)) res (cw cI cT cM ad (u3 σ i τ)) := by
  refine ct_int (by decide) (Nat.le_of_ble_eq_true rfl) ?_
  intro p e s m args below meth c Q ls hx hb hml hown ht hX hret hP hS hl
  have hl : lv_has ls 3 [(0, .ref (ad (10 * i + 1))), (1, .int x1), (2, .int x2)] := hl
  unfold fX4_childOf at hf
  refine lv_iload_n hx hb dX4_childOf_0 rfl (lv_at hl 1 rfl) ?_
  refine lv_if_lt (tgt := 10) hx hb dX4_childOf_1 (by decide) (fun hc1 => ?_) (fun hc1 => ?_)
  · rw [if_pos hc1] at hf
    refine lv_iconst (v := (-1 : Int32)) hx hb dX4_childOf_10 (by decide) ?_
    have e0 := Option.some.inj hf
    subst e0
    exact hret _ _ _ _ hP hS dX4_childOf_11
  · rw [if_neg hc1] at hf
    refine lv_iload_n hx hb dX4_childOf_4 rfl (lv_at hl 1 rfl) ?_
    refine lv_bipush (v := (60 : Int32)) hx hb dX4_childOf_5 (by decide) ?_
    refine lv_icmp_lt (tgt := 12) hx hb dX4_childOf_7 (by decide) (fun hc2 => ?_) (fun hc2 => ?_)
    · rw [if_pos hc2] at hf
      refine lv_iload_n hx hb dX4_childOf_12 rfl (lv_at hl 2 rfl) ?_
      refine lv_if_eq (tgt := 25) hx hb dX4_childOf_13 (by decide) (fun hc3 => ?_) (fun hc3 => ?_)
      · rw [if_pos hc3] at hf
        refine lv_aload_n hx hb dX4_childOf_25 rfl (lv_at hl 0 rfl) ?_
        refine va_get (ci := 3) (v := .ref (ad (10 * i + (2 + 4)))) hx hb ht i_X4 hown hX.1 hP (10 * i + 1) (ct_nodes hi) rfl 4 (by decide) (ht _ kFL_RX4_24) (fun _ h9 => h9) rfl dX4_childOf_26 ?_
        refine lv_iload_n hx hb dX4_childOf_29 rfl (lv_at hl 1 rfl) ?_
        obtain ⟨hn4, hf⟩ := ngE _ hf
        refine cr_ild hx hb hX hP hi (by decide) hn4 dX4_childOf_30 ?_
        have e0 := Option.some.inj hf
        subst e0
        exact hret _ _ _ _ hP hS dX4_childOf_31
      · rw [if_neg hc3] at hf
        refine lv_aload_n hx hb dX4_childOf_16 rfl (lv_at hl 0 rfl) ?_
        refine va_get (ci := 3) (v := .ref (ad (10 * i + (2 + 3)))) hx hb ht i_X4 hown hX.1 hP (10 * i + 1) (ct_nodes hi) rfl 3 (by decide) (ht _ kFL_RX4_21) (fun _ h9 => h9) rfl dX4_childOf_17 ?_
        refine lv_iload_n hx hb dX4_childOf_20 rfl (lv_at hl 1 rfl) ?_
        obtain ⟨hn5, hf⟩ := ngE _ hf
        refine cr_ild hx hb hX hP hi (by decide) hn5 dX4_childOf_21 ?_
        refine lv_goto (tgt := 31) hx hb dX4_childOf_22 (by decide) ?_
        have e0 := Option.some.inj hf
        subst e0
        exact hret _ _ _ _ hP hS dX4_childOf_31
    · rw [if_neg hc2] at hf
      refine lv_iconst (v := (-1 : Int32)) hx hb dX4_childOf_10 (by decide) ?_
      have e0 := Option.some.inj hf
      subst e0
      exact hret _ _ _ _ hP hS dX4_childOf_11
def fX4_parentOf (F : Nat) (τ : Tau) (x1 : Int32) : Option (Int32) := if x1 < 0 then (some (-1 : Int32)) else (if x1 < (60 : Int32) then (if x1 < 0 ∨ 60 ≤ x1.toNatClampNeg then none else (some (τ 5 x1.toNatClampNeg))) else (some (-1 : Int32)))
abbrev rX4_parentOf : Room := { frames := 0, cells := 0, slots := 0, locals := 0 }
theorem wX4_parentOf : kV yX4_parentOf cX4_parentOf 2 (some .int) 1 := ⟨kCO_yX4_parentOf, kIM_yX4_parentOf, kSE_yX4_parentOf, kIN_RX4, by decide +kernel, by decide +kernel, by decide +kernel⟩
set_option maxHeartbeats 4000000 in
set_option maxRecDepth 100000 in
theorem tX4_parentOf {l : Launch} {D : va_G} {cI cT cM : ClassId} {ad : Nat → Nat} (hD : gInj 167 ad) {F : Nat} {σ : Sig} {i : Nat} (hi : i < 16) {τ : Tau} {x1 : Int32} {res : Int32} (hf : fX4_parentOf F τ x1 = some res) : CTi l yX4_parentOf cX4_parentOf 2 .int rX4_parentOf D (cTy cI cT cM) (gA 167 ad) [.ref (ad (10 * i + 1)), .int x1] (cw cI cT cM ad (u3 σ i τ)) res (cw cI cT cM ad (u3 σ i τ)) := by
  refine ct_int (by decide) (Nat.le_of_ble_eq_true rfl) ?_
  intro p e s m args below meth c Q ls hx hb hml hown ht hX hret hP hS hl
  have hl : lv_has ls 2 [(0, .ref (ad (10 * i + 1))), (1, .int x1)] := hl
  unfold fX4_parentOf at hf
  refine lv_iload_n hx hb dX4_parentOf_0 rfl (lv_at hl 1 rfl) ?_
  refine lv_if_lt (tgt := 10) hx hb dX4_parentOf_1 (by decide) (fun hc1 => ?_) (fun hc1 => ?_)
  · rw [if_pos hc1] at hf
    refine lv_iconst (v := (-1 : Int32)) hx hb dX4_parentOf_10 (by decide) ?_
    refine lv_goto (tgt := 20) hx hb dX4_parentOf_11 (by decide) ?_
    have e0 := Option.some.inj hf
    subst e0
    exact hret _ _ _ _ hP hS dX4_parentOf_20
  · rw [if_neg hc1] at hf
    refine lv_iload_n hx hb dX4_parentOf_4 rfl (lv_at hl 1 rfl) ?_
    refine lv_bipush (v := (60 : Int32)) hx hb dX4_parentOf_5 (by decide) ?_
    refine lv_icmp_lt (tgt := 14) hx hb dX4_parentOf_7 (by decide) (fun hc2 => ?_) (fun hc2 => ?_)
    · rw [if_pos hc2] at hf
      refine lv_aload_n hx hb dX4_parentOf_14 rfl (lv_at hl 0 rfl) ?_
      refine va_get (ci := 3) (v := .ref (ad (10 * i + (2 + 5)))) hx hb ht i_X4 hown hX.1 hP (10 * i + 1) (ct_nodes hi) rfl 5 (by decide) (ht _ kFL_RX4_27) (fun _ h9 => h9) rfl dX4_parentOf_15 ?_
      refine lv_iload_n hx hb dX4_parentOf_18 rfl (lv_at hl 1 rfl) ?_
      obtain ⟨hn3, hf⟩ := ngE _ hf
      refine cr_ild hx hb hX hP hi (by decide) hn3 dX4_parentOf_19 ?_
      have e0 := Option.some.inj hf
      subst e0
      exact hret _ _ _ _ hP hS dX4_parentOf_20
    · rw [if_neg hc2] at hf
      refine lv_iconst (v := (-1 : Int32)) hx hb dX4_parentOf_10 (by decide) ?_
      refine lv_goto (tgt := 20) hx hb dX4_parentOf_11 (by decide) ?_
      have e0 := Option.some.inj hf
      subst e0
      exact hret _ _ _ _ hP hS dX4_parentOf_20
def fX4_step (F : Nat) (τ : Tau) (x1 : Int32) (x2 : Int32) : Option (Int32) := (fX4_rankOf F τ x1).bind fun q1 => ((fX4_rankOf F τ x2).bind fun q2 => (some (q1 - q2)))
abbrev rX4_step : Room := { frames := 1, cells := 0, slots := 0, locals := 21 }
theorem wX4_step : kV yX4_step cX4_step 3 (some .int) 2 := ⟨kCO_yX4_step, kIM_yX4_step, kSE_yX4_step, kIN_RX4, by decide +kernel, by decide +kernel, by decide +kernel⟩
set_option maxHeartbeats 4000000 in
set_option maxRecDepth 100000 in
theorem tX4_step {l : Launch} {D : va_G} {cI cT cM : ClassId} {ad : Nat → Nat} (hD : gInj 167 ad) {F : Nat} {σ : Sig} {i : Nat} (hi : i < 16) {τ : Tau} {x1 : Int32} {x2 : Int32} {res : Int32} (hf : fX4_step F τ x1 x2 = some res) : CTi l yX4_step cX4_step 3 .int rX4_step D (cTy cI cT cM) (gA 167 ad) [.ref (ad (10 * i + 1)), .int x1, .int x2] (cw cI cT cM ad (u3 σ i τ)) res (cw cI cT cM ad (u3 σ i τ)) := by
  refine ct_int (by decide) (Nat.le_of_ble_eq_true rfl) ?_
  intro p e s m args below meth c Q ls hx hb hml hown ht hX hret hP hS hl
  have hl : lv_has ls 3 [(0, .ref (ad (10 * i + 1))), (1, .int x1), (2, .int x2)] := hl
  unfold fX4_step at hf
  refine lv_aload_n hx hb dX4_step_0 rfl (lv_at hl 0 rfl) ?_
  refine lv_iload_n hx hb dX4_step_1 rfl (lv_at hl 1 rfl) ?_
  obtain ⟨q1, hq1, hf⟩ := obE hf
  refine ct_cVi (rest := []) (tX4_rankOf hD hi hq1) hx hb hml hown ht hX hP hS wX4_rankOf kML_RX4_49 rfl rfl ⟨Nat.le_of_ble_eq_true rfl, Nat.le_of_ble_eq_true rfl⟩ (va_recv hX.1 hP rfl (ct_nodes hi)) rfl hl.1 rfl (Nat.le_of_ble_eq_true rfl) dX4_step_2 (fun H locs hP hS => ?_)
  refine lv_aload_n hx hb dX4_step_5 rfl (lv_at hl 0 rfl) ?_
  refine lv_iload_n hx hb dX4_step_6 rfl (lv_at hl 2 rfl) ?_
  obtain ⟨q2, hq2, hf⟩ := obE hf
  refine ct_cVi (rest := [.int q1]) (tX4_rankOf hD hi hq2) hx hb hml hown ht hX hP hS wX4_rankOf kML_RX4_49 rfl rfl ⟨Nat.le_of_ble_eq_true rfl, Nat.le_of_ble_eq_true rfl⟩ (va_recv hX.1 hP rfl (ct_nodes hi)) rfl hl.1 rfl (Nat.le_of_ble_eq_true rfl) dX4_step_7 (fun H locs hP hS => ?_)
  refine lv_isub hx hb dX4_step_10 ?_
  have e0 := Option.some.inj hf
  subst e0
  exact hret _ _ _ _ hP hS dX4_step_11
def fX4_isLeaf (F : Nat) (τ : Tau) (x1 : Int32) : Option (Int32) := (fX4_leftOf F τ x1).bind fun q1 => (if q1 = (-1 : Int32) then ((fX4_rightOf F τ x1).bind fun q3 => (if q3 = (-1 : Int32) then (some (1 : Int32)) else (some (0 : Int32)))) else (some (0 : Int32)))
abbrev rX4_isLeaf : Room := { frames := 1, cells := 0, slots := 0, locals := 21 }
theorem wX4_isLeaf : kV yX4_isLeaf cX4_isLeaf 2 (some .boolean) 1 := ⟨kCO_yX4_isLeaf, kIM_yX4_isLeaf, kSE_yX4_isLeaf, kIN_RX4, by decide +kernel, by decide +kernel, by decide +kernel⟩
set_option maxHeartbeats 4000000 in
set_option maxRecDepth 100000 in
theorem tX4_isLeaf {l : Launch} {D : va_G} {cI cT cM : ClassId} {ad : Nat → Nat} (hD : gInj 167 ad) {F : Nat} {σ : Sig} {i : Nat} (hi : i < 16) {τ : Tau} {x1 : Int32} {res : Int32} (hf : fX4_isLeaf F τ x1 = some res) : CTi l yX4_isLeaf cX4_isLeaf 2 .boolean rX4_isLeaf D (cTy cI cT cM) (gA 167 ad) [.ref (ad (10 * i + 1)), .int x1] (cw cI cT cM ad (u3 σ i τ)) res (cw cI cT cM ad (u3 σ i τ)) := by
  refine ct_bool (by decide) (Nat.le_of_ble_eq_true rfl) ?_
  intro p e s m args below meth c Q ls hx hb hml hown ht hX hret hP hS hl
  have hl : lv_has ls 2 [(0, .ref (ad (10 * i + 1))), (1, .int x1)] := hl
  unfold fX4_isLeaf at hf
  refine lv_aload_n hx hb dX4_isLeaf_0 rfl (lv_at hl 0 rfl) ?_
  refine lv_iload_n hx hb dX4_isLeaf_1 rfl (lv_at hl 1 rfl) ?_
  obtain ⟨q1, hq1, hf⟩ := obE hf
  refine ct_cVi (rest := []) (tX4_leftOf hD hi hq1) hx hb hml hown ht hX hP hS wX4_leftOf kML_RX4_53 rfl rfl ⟨Nat.le_of_ble_eq_true rfl, Nat.le_of_ble_eq_true rfl⟩ (va_recv hX.1 hP rfl (ct_nodes hi)) rfl hl.1 rfl (Nat.le_of_ble_eq_true rfl) dX4_isLeaf_2 (fun H locs hP hS => ?_)
  refine lv_iconst (v := (-1 : Int32)) hx hb dX4_isLeaf_5 (by decide) ?_
  refine lv_icmp_ne (tgt := 22) hx hb dX4_isLeaf_6 (by decide) (fun hc2 => ?_) (fun hc2 => ?_)
  · rw [if_neg hc2] at hf
    refine lv_iconst (v := (0 : Int32)) hx hb dX4_isLeaf_22 (by decide) ?_
    have e0 := Option.some.inj hf
    subst e0
    exact hret _ _ _ _ (Or.inl rfl) hP hS dX4_isLeaf_23
  · rw [if_pos hc2] at hf
    refine lv_aload_n hx hb dX4_isLeaf_9 rfl (lv_at hl 0 rfl) ?_
    refine lv_iload_n hx hb dX4_isLeaf_10 rfl (lv_at hl 1 rfl) ?_
    obtain ⟨q3, hq3, hf⟩ := obE hf
    refine ct_cVi (rest := []) (tX4_rightOf hD hi hq3) hx hb hml hown ht hX hP hS wX4_rightOf kML_RX4_56 rfl rfl ⟨Nat.le_of_ble_eq_true rfl, Nat.le_of_ble_eq_true rfl⟩ (va_recv hX.1 hP rfl (ct_nodes hi)) rfl hl.1 rfl (Nat.le_of_ble_eq_true rfl) dX4_isLeaf_11 (fun H locs hP hS => ?_)
    refine lv_iconst (v := (-1 : Int32)) hx hb dX4_isLeaf_14 (by decide) ?_
    refine lv_icmp_ne (tgt := 22) hx hb dX4_isLeaf_15 (by decide) (fun hc4 => ?_) (fun hc4 => ?_)
    · rw [if_neg hc4] at hf
      refine lv_iconst (v := (0 : Int32)) hx hb dX4_isLeaf_22 (by decide) ?_
      have e0 := Option.some.inj hf
      subst e0
      exact hret _ _ _ _ (Or.inl rfl) hP hS dX4_isLeaf_23
    · rw [if_pos hc4] at hf
      refine lv_iconst (v := (1 : Int32)) hx hb dX4_isLeaf_18 (by decide) ?_
      refine lv_goto (tgt := 23) hx hb dX4_isLeaf_19 (by decide) ?_
      have e0 := Option.some.inj hf
      subst e0
      exact hret _ _ _ _ (Or.inr rfl) hP hS dX4_isLeaf_23
def fX4_setWorth (F : Nat) (τ : Tau) (x1 : Int32) (x2 : Int32) : Option (Tau) := if x1 < 0 then (some τ) else (if (60 : Int32) ≤ x1 then (some τ) else (if x1 < 0 ∨ 60 ≤ x1.toNatClampNeg then none else (some (u2 τ 1 x1.toNatClampNeg x2))))
abbrev rX4_setWorth : Room := { frames := 0, cells := 0, slots := 0, locals := 0 }
theorem wX4_setWorth : kV yX4_setWorth cX4_setWorth 3 none 2 := ⟨kCO_yX4_setWorth, kIM_yX4_setWorth, kSE_yX4_setWorth, kIN_RX4, by decide +kernel, by decide +kernel, by decide +kernel⟩
set_option maxHeartbeats 4000000 in
set_option maxRecDepth 100000 in
theorem tX4_setWorth {l : Launch} {D : va_G} {cI cT cM : ClassId} {ad : Nat → Nat} (hD : gInj 167 ad) {F : Nat} {σ : Sig} {i : Nat} (hi : i < 16) {τ : Tau} {x1 : Int32} {x2 : Int32} {res : Tau} (hf : fX4_setWorth F τ x1 x2 = some res) : CTv l yX4_setWorth cX4_setWorth 3 rX4_setWorth D (cTy cI cT cM) (gA 167 ad) [.ref (ad (10 * i + 1)), .int x1, .int x2] (cw cI cT cM ad (u3 σ i τ)) (cw cI cT cM ad (u3 σ i res)) := by
  refine ct_void (by decide) (Nat.le_of_ble_eq_true rfl) ?_
  intro p e s m args below meth c Q ls hx hb hml hown ht hX hret hP hS hl
  have hl : lv_has ls 3 [(0, .ref (ad (10 * i + 1))), (1, .int x1), (2, .int x2)] := hl
  unfold fX4_setWorth at hf
  refine lv_iload_n hx hb dX4_setWorth_0 rfl (lv_at hl 1 rfl) ?_
  refine lv_if_lt (tgt := 17) hx hb dX4_setWorth_1 (by decide) (fun hc1 => ?_) (fun hc1 => ?_)
  · rw [if_pos hc1] at hf
    have e0 := Option.some.inj hf
    subst e0
    exact hret _ _ _ _ hP hS dX4_setWorth_17
  · rw [if_neg hc1] at hf
    refine lv_iload_n hx hb dX4_setWorth_4 rfl (lv_at hl 1 rfl) ?_
    refine lv_bipush (v := (60 : Int32)) hx hb dX4_setWorth_5 (by decide) ?_
    refine lv_icmp_ge (tgt := 17) hx hb dX4_setWorth_7 (by decide) (fun hc2 => ?_) (fun hc2 => ?_)
    · rw [if_pos hc2] at hf
      have e0 := Option.some.inj hf
      subst e0
      exact hret _ _ _ _ hP hS dX4_setWorth_17
    · rw [if_neg hc2] at hf
      refine lv_aload_n hx hb dX4_setWorth_10 rfl (lv_at hl 0 rfl) ?_
      refine va_get (ci := 3) (v := .ref (ad (10 * i + (2 + 1)))) hx hb ht i_X4 hown hX.1 hP (10 * i + 1) (ct_nodes hi) rfl 1 (by decide) (ht _ kFL_RX4_15) (fun _ h9 => h9) rfl dX4_setWorth_11 ?_
      refine lv_iload_n hx hb dX4_setWorth_14 rfl (lv_at hl 1 rfl) ?_
      refine lv_iload_n hx hb dX4_setWorth_15 rfl (lv_at hl 2 rfl) ?_
      obtain ⟨hn3, hf⟩ := ngE _ hf
      refine cr_iast hD hx hb hX hP hS hi (by decide) hn3 dX4_setWorth_16 (fun H locs hP hS => ?_)
      have e0 := Option.some.inj hf
      subst e0
      exact hret _ _ _ _ hP hS dX4_setWorth_17
def fX4_setRank (F : Nat) (τ : Tau) (x1 : Int32) (x2 : Int32) : Option (Tau) := if x1 < 0 then (some τ) else (if (60 : Int32) ≤ x1 then (some τ) else (if x1 < 0 ∨ 60 ≤ x1.toNatClampNeg then none else (some (u2 τ 2 x1.toNatClampNeg x2))))
abbrev rX4_setRank : Room := { frames := 0, cells := 0, slots := 0, locals := 0 }
theorem wX4_setRank : kV yX4_setRank cX4_setRank 3 none 2 := ⟨kCO_yX4_setRank, kIM_yX4_setRank, kSE_yX4_setRank, kIN_RX4, by decide +kernel, by decide +kernel, by decide +kernel⟩
set_option maxHeartbeats 4000000 in
set_option maxRecDepth 100000 in
theorem tX4_setRank {l : Launch} {D : va_G} {cI cT cM : ClassId} {ad : Nat → Nat} (hD : gInj 167 ad) {F : Nat} {σ : Sig} {i : Nat} (hi : i < 16) {τ : Tau} {x1 : Int32} {x2 : Int32} {res : Tau} (hf : fX4_setRank F τ x1 x2 = some res) : CTv l yX4_setRank cX4_setRank 3 rX4_setRank D (cTy cI cT cM) (gA 167 ad) [.ref (ad (10 * i + 1)), .int x1, .int x2] (cw cI cT cM ad (u3 σ i τ)) (cw cI cT cM ad (u3 σ i res)) := by
  refine ct_void (by decide) (Nat.le_of_ble_eq_true rfl) ?_
  intro p e s m args below meth c Q ls hx hb hml hown ht hX hret hP hS hl
  have hl : lv_has ls 3 [(0, .ref (ad (10 * i + 1))), (1, .int x1), (2, .int x2)] := hl
  unfold fX4_setRank at hf
  refine lv_iload_n hx hb dX4_setRank_0 rfl (lv_at hl 1 rfl) ?_
  refine lv_if_lt (tgt := 17) hx hb dX4_setRank_1 (by decide) (fun hc1 => ?_) (fun hc1 => ?_)
  · rw [if_pos hc1] at hf
    have e0 := Option.some.inj hf
    subst e0
    exact hret _ _ _ _ hP hS dX4_setRank_17
  · rw [if_neg hc1] at hf
    refine lv_iload_n hx hb dX4_setRank_4 rfl (lv_at hl 1 rfl) ?_
    refine lv_bipush (v := (60 : Int32)) hx hb dX4_setRank_5 (by decide) ?_
    refine lv_icmp_ge (tgt := 17) hx hb dX4_setRank_7 (by decide) (fun hc2 => ?_) (fun hc2 => ?_)
    · rw [if_pos hc2] at hf
      have e0 := Option.some.inj hf
      subst e0
      exact hret _ _ _ _ hP hS dX4_setRank_17
    · rw [if_neg hc2] at hf
      refine lv_aload_n hx hb dX4_setRank_10 rfl (lv_at hl 0 rfl) ?_
      refine va_get (ci := 3) (v := .ref (ad (10 * i + (2 + 2)))) hx hb ht i_X4 hown hX.1 hP (10 * i + 1) (ct_nodes hi) rfl 2 (by decide) (ht _ kFL_RX4_18) (fun _ h9 => h9) rfl dX4_setRank_11 ?_
      refine lv_iload_n hx hb dX4_setRank_14 rfl (lv_at hl 1 rfl) ?_
      refine lv_iload_n hx hb dX4_setRank_15 rfl (lv_at hl 2 rfl) ?_
      obtain ⟨hn3, hf⟩ := ngE _ hf
      refine cr_iast hD hx hb hX hP hS hi (by decide) hn3 dX4_setRank_16 (fun H locs hP hS => ?_)
      have e0 := Option.some.inj hf
      subst e0
      exact hret _ _ _ _ hP hS dX4_setRank_17
def fX4_addRank (F : Nat) (τ : Tau) (x1 : Int32) (x2 : Int32) : Option (Tau) := if x1 < 0 then (some τ) else (if (60 : Int32) ≤ x1 then (some τ) else (if x1 < 0 ∨ 60 ≤ x1.toNatClampNeg then none else (if x1 < 0 ∨ 60 ≤ x1.toNatClampNeg then none else (some (u2 τ 2 x1.toNatClampNeg ((τ 2 x1.toNatClampNeg) + x2))))))
abbrev rX4_addRank : Room := { frames := 0, cells := 0, slots := 0, locals := 0 }
theorem wX4_addRank : kV yX4_addRank cX4_addRank 3 none 2 := ⟨kCO_yX4_addRank, kIM_yX4_addRank, kSE_yX4_addRank, kIN_RX4, by decide +kernel, by decide +kernel, by decide +kernel⟩
set_option maxHeartbeats 4000000 in
set_option maxRecDepth 100000 in
theorem tX4_addRank {l : Launch} {D : va_G} {cI cT cM : ClassId} {ad : Nat → Nat} (hD : gInj 167 ad) {F : Nat} {σ : Sig} {i : Nat} (hi : i < 16) {τ : Tau} {x1 : Int32} {x2 : Int32} {res : Tau} (hf : fX4_addRank F τ x1 x2 = some res) : CTv l yX4_addRank cX4_addRank 3 rX4_addRank D (cTy cI cT cM) (gA 167 ad) [.ref (ad (10 * i + 1)), .int x1, .int x2] (cw cI cT cM ad (u3 σ i τ)) (cw cI cT cM ad (u3 σ i res)) := by
  refine ct_void (by decide) (Nat.le_of_ble_eq_true rfl) ?_
  intro p e s m args below meth c Q ls hx hb hml hown ht hX hret hP hS hl
  have hl : lv_has ls 3 [(0, .ref (ad (10 * i + 1))), (1, .int x1), (2, .int x2)] := hl
  unfold fX4_addRank at hf
  refine lv_iload_n hx hb dX4_addRank_0 rfl (lv_at hl 1 rfl) ?_
  refine lv_if_lt (tgt := 20) hx hb dX4_addRank_1 (by decide) (fun hc1 => ?_) (fun hc1 => ?_)
  · rw [if_pos hc1] at hf
    have e0 := Option.some.inj hf
    subst e0
    exact hret _ _ _ _ hP hS dX4_addRank_20
  · rw [if_neg hc1] at hf
    refine lv_iload_n hx hb dX4_addRank_4 rfl (lv_at hl 1 rfl) ?_
    refine lv_bipush (v := (60 : Int32)) hx hb dX4_addRank_5 (by decide) ?_
    refine lv_icmp_ge (tgt := 20) hx hb dX4_addRank_7 (by decide) (fun hc2 => ?_) (fun hc2 => ?_)
    · rw [if_pos hc2] at hf
      have e0 := Option.some.inj hf
      subst e0
      exact hret _ _ _ _ hP hS dX4_addRank_20
    · rw [if_neg hc2] at hf
      refine lv_aload_n hx hb dX4_addRank_10 rfl (lv_at hl 0 rfl) ?_
      refine va_get (ci := 3) (v := .ref (ad (10 * i + (2 + 2)))) hx hb ht i_X4 hown hX.1 hP (10 * i + 1) (ct_nodes hi) rfl 2 (by decide) (ht _ kFL_RX4_18) (fun _ h9 => h9) rfl dX4_addRank_11 ?_
      refine lv_iload_n hx hb dX4_addRank_14 rfl (lv_at hl 1 rfl) ?_
      refine lv_dup2_11 hx hb dX4_addRank_15 rfl rfl ?_
      obtain ⟨hn3, hf⟩ := ngE _ hf
      refine cr_ild hx hb hX hP hi (by decide) hn3 dX4_addRank_16 ?_
      refine lv_iload_n hx hb dX4_addRank_17 rfl (lv_at hl 2 rfl) ?_
      refine lv_iadd hx hb dX4_addRank_18 ?_
      obtain ⟨hn4, hf⟩ := ngE _ hf
      refine cr_iast hD hx hb hX hP hS hi (by decide) hn4 dX4_addRank_19 (fun H locs hP hS => ?_)
      have e0 := Option.some.inj hf
      subst e0
      exact hret _ _ _ _ hP hS dX4_addRank_20
def fX4_hang_27 (F : Nat) (τ : Tau) (x3 : Int32) : Option (Tau) := some (u2 τ 6 0 x3)
def fX4_hang_17 (F : Nat) (τ : Tau) (x1 : Int32) (x2 : Int32) (x3 : Int32) : Option (Tau) := if x1 < 0 then (fX4_hang_27 F τ x3) else (if x1 < (60 : Int32) then (if x2 = 0 then (if x1 < 0 ∨ 60 ≤ x1.toNatClampNeg then none else (some (u2 τ 4 x1.toNatClampNeg x3))) else (if x1 < 0 ∨ 60 ≤ x1.toNatClampNeg then none else (some (u2 τ 3 x1.toNatClampNeg x3)))) else (fX4_hang_27 F τ x3))
def fX4_hang (F : Nat) (τ : Tau) (x1 : Int32) (x2 : Int32) (x3 : Int32) : Option (Tau) := if x3 < 0 then (fX4_hang_17 F τ x1 x2 x3) else (if (60 : Int32) ≤ x3 then (fX4_hang_17 F τ x1 x2 x3) else (if x3 < 0 ∨ 60 ≤ x3.toNatClampNeg then none else (fX4_hang_17 F (u2 τ 5 x3.toNatClampNeg x1) x1 x2 x3)))
abbrev rX4_hang : Room := { frames := 0, cells := 0, slots := 0, locals := 0 }
theorem wX4_hang : kV yX4_hang cX4_hang 4 none 3 := ⟨kCO_yX4_hang, kIM_yX4_hang, kSE_yX4_hang, kIN_RX4, by decide +kernel, by decide +kernel, by decide +kernel⟩
set_option maxHeartbeats 4000000 in
set_option maxRecDepth 100000 in
theorem tX4_hang {l : Launch} {D : va_G} {cI cT cM : ClassId} {ad : Nat → Nat} (hD : gInj 167 ad) {F : Nat} {σ : Sig} {i : Nat} (hi : i < 16) {τ : Tau} {x1 : Int32} {x2 : Int32} {x3 : Int32} {res : Tau} (hf : fX4_hang F τ x1 x2 x3 = some res) : CTv l yX4_hang cX4_hang 4 rX4_hang D (cTy cI cT cM) (gA 167 ad) [.ref (ad (10 * i + 1)), .int x1, .int x2, .int x3] (cw cI cT cM ad (u3 σ i τ)) (cw cI cT cM ad (u3 σ i res)) := by
  refine ct_void (by decide) (Nat.le_of_ble_eq_true rfl) ?_
  intro p e s m args below meth c Q ls hx hb hml hown ht hX hret hP hS hl
  have hl : lv_has ls 4 [(0, .ref (ad (10 * i + 1))), (1, .int x1), (2, .int x2), (3, .int x3)] := hl
  have blk27 : ∀ (H : Heap) (locs : List Loc) (τ : Tau) (x3 : Int32) (ls : Array Slot), va_P D vwCl (cw cI cT cM ad (u3 σ i τ)) H → va_S (gA 167 ad) s.heap H locs → lv_has ls 4 [(0, .ref (ad (10 * i + 1))), (3, .int x3)] → fX4_hang_27 F τ x3 = some res → W p l e rX4_hang s m args below meth c H locs 0 0 Q (F0 m 27 ls []) := by
    intro H locs τ x3 ls hP hS hl hf
    unfold fX4_hang_27 at hf
    refine lv_aload_n hx hb dX4_hang_27 rfl (lv_at hl 0 rfl) ?_
    refine lv_iload_n hx hb dX4_hang_28 rfl (lv_at hl 1 rfl) ?_
    refine cr_putTop hD hx hb ht hown hX hP hS hi kFL_RX4_30 dX4_hang_29 (fun H locs hP hS => ?_)
    refine lv_goto (tgt := 56) hx hb dX4_hang_32 (by decide) ?_
    have e0 := Option.some.inj hf
    subst e0
    exact hret _ _ _ _ hP hS dX4_hang_56
  have blk17 : ∀ (H : Heap) (locs : List Loc) (τ : Tau) (x1 : Int32) (x2 : Int32) (x3 : Int32) (ls : Array Slot), va_P D vwCl (cw cI cT cM ad (u3 σ i τ)) H → va_S (gA 167 ad) s.heap H locs → lv_has ls 4 [(0, .ref (ad (10 * i + 1))), (1, .int x1), (2, .int x2), (3, .int x3)] → fX4_hang_17 F τ x1 x2 x3 = some res → W p l e rX4_hang s m args below meth c H locs 0 0 Q (F0 m 17 ls []) := by
    intro H locs τ x1 x2 x3 ls hP hS hl hf
    unfold fX4_hang_17 at hf
    refine lv_iload_n hx hb dX4_hang_17 rfl (lv_at hl 1 rfl) ?_
    refine lv_if_lt (tgt := 27) hx hb dX4_hang_18 (by decide) (fun hc4 => ?_) (fun hc4 => ?_)
    · rw [if_pos hc4] at hf
      exact blk27 _ _ τ x3 ls hP hS (lv_sub hl [0, 3] rfl) hf
    · rw [if_neg hc4] at hf
      refine lv_iload_n hx hb dX4_hang_21 rfl (lv_at hl 1 rfl) ?_
      refine lv_bipush (v := (60 : Int32)) hx hb dX4_hang_22 (by decide) ?_
      refine lv_icmp_lt (tgt := 35) hx hb dX4_hang_24 (by decide) (fun hc5 => ?_) (fun hc5 => ?_)
      · rw [if_pos hc5] at hf
        refine lv_iload_n hx hb dX4_hang_35 rfl (lv_at hl 2 rfl) ?_
        refine lv_if_eq (tgt := 49) hx hb dX4_hang_36 (by decide) (fun hc6 => ?_) (fun hc6 => ?_)
        · rw [if_pos hc6] at hf
          refine lv_aload_n hx hb dX4_hang_49 rfl (lv_at hl 0 rfl) ?_
          refine va_get (ci := 3) (v := .ref (ad (10 * i + (2 + 4)))) hx hb ht i_X4 hown hX.1 hP (10 * i + 1) (ct_nodes hi) rfl 4 (by decide) (ht _ kFL_RX4_24) (fun _ h9 => h9) rfl dX4_hang_50 ?_
          refine lv_iload_n hx hb dX4_hang_53 rfl (lv_at hl 1 rfl) ?_
          refine lv_iload_n hx hb dX4_hang_54 rfl (lv_at hl 3 rfl) ?_
          obtain ⟨hn7, hf⟩ := ngE _ hf
          refine cr_iast hD hx hb hX hP hS hi (by decide) hn7 dX4_hang_55 (fun H locs hP hS => ?_)
          have e0 := Option.some.inj hf
          subst e0
          exact hret _ _ _ _ hP hS dX4_hang_56
        · rw [if_neg hc6] at hf
          refine lv_aload_n hx hb dX4_hang_39 rfl (lv_at hl 0 rfl) ?_
          refine va_get (ci := 3) (v := .ref (ad (10 * i + (2 + 3)))) hx hb ht i_X4 hown hX.1 hP (10 * i + 1) (ct_nodes hi) rfl 3 (by decide) (ht _ kFL_RX4_21) (fun _ h9 => h9) rfl dX4_hang_40 ?_
          refine lv_iload_n hx hb dX4_hang_43 rfl (lv_at hl 1 rfl) ?_
          refine lv_iload_n hx hb dX4_hang_44 rfl (lv_at hl 3 rfl) ?_
          obtain ⟨hn8, hf⟩ := ngE _ hf
          refine cr_iast hD hx hb hX hP hS hi (by decide) hn8 dX4_hang_45 (fun H locs hP hS => ?_)
          refine lv_goto (tgt := 56) hx hb dX4_hang_46 (by decide) ?_
          have e0 := Option.some.inj hf
          subst e0
          exact hret _ _ _ _ hP hS dX4_hang_56
      · rw [if_neg hc5] at hf
        exact blk27 _ _ τ x3 ls hP hS (lv_sub hl [0, 3] rfl) hf
  unfold fX4_hang at hf
  refine lv_iload_n hx hb dX4_hang_0 rfl (lv_at hl 3 rfl) ?_
  refine lv_if_lt (tgt := 17) hx hb dX4_hang_1 (by decide) (fun hc1 => ?_) (fun hc1 => ?_)
  · rw [if_pos hc1] at hf
    exact blk17 _ _ τ x1 x2 x3 ls hP hS (lv_sub hl [0, 1, 2, 3] rfl) hf
  · rw [if_neg hc1] at hf
    refine lv_iload_n hx hb dX4_hang_4 rfl (lv_at hl 3 rfl) ?_
    refine lv_bipush (v := (60 : Int32)) hx hb dX4_hang_5 (by decide) ?_
    refine lv_icmp_ge (tgt := 17) hx hb dX4_hang_7 (by decide) (fun hc2 => ?_) (fun hc2 => ?_)
    · rw [if_pos hc2] at hf
      exact blk17 _ _ τ x1 x2 x3 ls hP hS (lv_sub hl [0, 1, 2, 3] rfl) hf
    · rw [if_neg hc2] at hf
      refine lv_aload_n hx hb dX4_hang_10 rfl (lv_at hl 0 rfl) ?_
      refine va_get (ci := 3) (v := .ref (ad (10 * i + (2 + 5)))) hx hb ht i_X4 hown hX.1 hP (10 * i + 1) (ct_nodes hi) rfl 5 (by decide) (ht _ kFL_RX4_27) (fun _ h9 => h9) rfl dX4_hang_11 ?_
      refine lv_iload_n hx hb dX4_hang_14 rfl (lv_at hl 3 rfl) ?_
      refine lv_iload_n hx hb dX4_hang_15 rfl (lv_at hl 1 rfl) ?_
      obtain ⟨hn3, hf⟩ := ngE _ hf
      refine cr_iast hD hx hb hX hP hS hi (by decide) hn3 dX4_hang_16 (fun H locs hP hS => ?_)
      exact blk17 _ _ (u2 τ 5 x3.toNatClampNeg x1) x1 x2 x3 ls hP hS (lv_sub hl [0, 1, 2, 3] rfl) hf
def fX4_freeSlot_2 (F : Nat) (τ : Tau) : Nat → Int32 → Option (Int32)
  | 0, _ => none
  | n + 1, x1 => if (60 : Int32) ≤ x1 then (some (-1 : Int32)) else (if x1 < 0 ∨ 60 ≤ x1.toNatClampNeg then none else (if (τ 0 x1.toNatClampNeg) = (-1 : Int32) then (some x1) else (fX4_freeSlot_2 F τ n (x1 + (1 : Int32)))))
def fX4_freeSlot (F : Nat) (τ : Tau) : Option (Int32) := fX4_freeSlot_2 F τ F (0 : Int32)
abbrev rX4_freeSlot : Room := { frames := 0, cells := 0, slots := 0, locals := 0 }
theorem wX4_freeSlot : kV yX4_freeSlot cX4_freeSlot 2 (some .int) 0 := ⟨kCO_yX4_freeSlot, kIM_yX4_freeSlot, kSE_yX4_freeSlot, kIN_RX4, by decide +kernel, by decide +kernel, by decide +kernel⟩
set_option maxHeartbeats 4000000 in
set_option maxRecDepth 100000 in
theorem tX4_freeSlot {l : Launch} {D : va_G} {cI cT cM : ClassId} {ad : Nat → Nat} (hD : gInj 167 ad) {F : Nat} {σ : Sig} {i : Nat} (hi : i < 16) {τ : Tau} {res : Int32} (hf : fX4_freeSlot F τ = some res) : CTi l yX4_freeSlot cX4_freeSlot 2 .int rX4_freeSlot D (cTy cI cT cM) (gA 167 ad) [.ref (ad (10 * i + 1))] (cw cI cT cM ad (u3 σ i τ)) res (cw cI cT cM ad (u3 σ i τ)) := by
  refine ct_int (by decide) (Nat.le_of_ble_eq_true rfl) ?_
  intro p e s m args below meth c Q ls hx hb hml hown ht hX hret hP hS hl
  have hl : lv_has ls 2 [(0, .ref (ad (10 * i + 1)))] := hl
  have blk2 : ∀ (n2 : Nat) (H : Heap) (locs : List Loc) (x1 : Int32) (ls : Array Slot), va_P D vwCl (cw cI cT cM ad (u3 σ i τ)) H → va_S (gA 167 ad) s.heap H locs → lv_has ls 2 [(0, .ref (ad (10 * i + 1))), (1, .int x1)] → fX4_freeSlot_2 F τ n2 x1 = some res → W p l e rX4_freeSlot s m args below meth c H locs 0 0 Q (F0 m 2 ls []) := by
    intro n2
    induction n2 with
    | zero =>
      intro H locs x1 ls hP hS hl hf
      rw [fX4_freeSlot_2] at hf
      cases hf
    | succ n2 ih2 =>
      skip
      intro H locs x1 ls hP hS hl hf
      rw [fX4_freeSlot_2] at hf
      refine lv_iload_n hx hb dX4_freeSlot_2 rfl (lv_at hl 1 rfl) ?_
      refine lv_bipush (v := (60 : Int32)) hx hb dX4_freeSlot_3 (by decide) ?_
      refine lv_icmp_ge (tgt := 26) hx hb dX4_freeSlot_5 (by decide) (fun hc1 => ?_) (fun hc1 => ?_)
      · rw [if_pos hc1] at hf
        refine lv_iconst (v := (-1 : Int32)) hx hb dX4_freeSlot_26 (by decide) ?_
        have e0 := Option.some.inj hf
        subst e0
        exact hret _ _ _ _ hP hS dX4_freeSlot_27
      · rw [if_neg hc1] at hf
        refine lv_aload_n hx hb dX4_freeSlot_8 rfl (lv_at hl 0 rfl) ?_
        refine va_get (ci := 3) (v := .ref (ad (10 * i + (2 + 0)))) hx hb ht i_X4 hown hX.1 hP (10 * i + 1) (ct_nodes hi) rfl 0 (by decide) (ht _ kFL_RX4_9) (fun _ h9 => h9) rfl dX4_freeSlot_9 ?_
        refine lv_iload_n hx hb dX4_freeSlot_12 rfl (lv_at hl 1 rfl) ?_
        obtain ⟨hn2, hf⟩ := ngE _ hf
        refine cr_ild hx hb hX hP hi (by decide) hn2 dX4_freeSlot_13 ?_
        refine lv_iconst (v := (-1 : Int32)) hx hb dX4_freeSlot_14 (by decide) ?_
        refine lv_icmp_ne (tgt := 20) hx hb dX4_freeSlot_15 (by decide) (fun hc3 => ?_) (fun hc3 => ?_)
        · rw [if_neg hc3] at hf
          refine lv_iinc (v := x1 + (1 : Int32)) (lv' := [(1, .int (x1 + (1 : Int32))), (0, .ref (ad (10 * i + 1)))]) hx hb dX4_freeSlot_20 hl (k := 1) rfl rfl (by decide) rfl (fun ls hl => ?_)
          refine lv_goto (tgt := 2) hx hb dX4_freeSlot_23 (by decide) ?_
          exact ih2 _ _ (x1 + (1 : Int32)) ls hP hS (lv_sub hl [1, 0] rfl) hf
        · rw [if_pos hc3] at hf
          refine lv_iload_n hx hb dX4_freeSlot_18 rfl (lv_at hl 1 rfl) ?_
          have e0 := Option.some.inj hf
          subst e0
          exact hret _ _ _ _ hP hS dX4_freeSlot_19
  unfold fX4_freeSlot at hf
  refine lv_iconst (v := (0 : Int32)) hx hb dX4_freeSlot_0 (by decide) ?_
  refine lv_istore_n (lv' := [(1, .int ((0 : Int32))), (0, .ref (ad (10 * i + 1)))]) hx hb dX4_freeSlot_1 rfl hl (by decide) rfl (fun ls hl => ?_)
  exact blk2 F _ _ (0 : Int32) ls hP hS (lv_sub hl [1, 0] rfl) hf
def fX4_fill (F : Nat) (τ : Tau) (x1 : Int32) (x2 : Int32) (x3 : Int32) : Option (Tau) := if x1 < 0 then (some τ) else (if (60 : Int32) ≤ x1 then (some τ) else (if x1 < 0 ∨ 60 ≤ x1.toNatClampNeg then none else (if x1 < 0 ∨ 60 ≤ x1.toNatClampNeg then none else (if x1 < 0 ∨ 60 ≤ x1.toNatClampNeg then none else (if x1 < 0 ∨ 60 ≤ x1.toNatClampNeg then none else (if x1 < 0 ∨ 60 ≤ x1.toNatClampNeg then none else (some (u2 (u2 (u2 (u2 (u2 (u2 τ 0 x1.toNatClampNeg x2) 1 x1.toNatClampNeg x3) 2 x1.toNatClampNeg (0 : Int32)) 3 x1.toNatClampNeg (-1 : Int32)) 4 x1.toNatClampNeg (-1 : Int32)) 6 1 (((u2 (u2 (u2 (u2 (u2 τ 0 x1.toNatClampNeg x2) 1 x1.toNatClampNeg x3) 2 x1.toNatClampNeg (0 : Int32)) 3 x1.toNatClampNeg (-1 : Int32)) 4 x1.toNatClampNeg (-1 : Int32)) 6 1) + (1 : Int32))))))))))
abbrev rX4_fill : Room := { frames := 0, cells := 0, slots := 0, locals := 0 }
theorem wX4_fill : kV yX4_fill cX4_fill 4 none 3 := ⟨kCO_yX4_fill, kIM_yX4_fill, kSE_yX4_fill, kIN_RX4, by decide +kernel, by decide +kernel, by decide +kernel⟩
set_option maxHeartbeats 4000000 in
set_option maxRecDepth 100000 in
theorem tX4_fill {l : Launch} {D : va_G} {cI cT cM : ClassId} {ad : Nat → Nat} (hD : gInj 167 ad) {F : Nat} {σ : Sig} {i : Nat} (hi : i < 16) {τ : Tau} {x1 : Int32} {x2 : Int32} {x3 : Int32} {res : Tau} (hf : fX4_fill F τ x1 x2 x3 = some res) : CTv l yX4_fill cX4_fill 4 rX4_fill D (cTy cI cT cM) (gA 167 ad) [.ref (ad (10 * i + 1)), .int x1, .int x2, .int x3] (cw cI cT cM ad (u3 σ i τ)) (cw cI cT cM ad (u3 σ i res)) := by
  refine ct_void (by decide) (Nat.le_of_ble_eq_true rfl) ?_
  intro p e s m args below meth c Q ls hx hb hml hown ht hX hret hP hS hl
  have hl : lv_has ls 4 [(0, .ref (ad (10 * i + 1))), (1, .int x1), (2, .int x2), (3, .int x3)] := hl
  unfold fX4_fill at hf
  refine lv_iload_n hx hb dX4_fill_0 rfl (lv_at hl 1 rfl) ?_
  refine lv_if_lt (tgt := 55) hx hb dX4_fill_1 (by decide) (fun hc1 => ?_) (fun hc1 => ?_)
  · rw [if_pos hc1] at hf
    have e0 := Option.some.inj hf
    subst e0
    exact hret _ _ _ _ hP hS dX4_fill_55
  · rw [if_neg hc1] at hf
    refine lv_iload_n hx hb dX4_fill_4 rfl (lv_at hl 1 rfl) ?_
    refine lv_bipush (v := (60 : Int32)) hx hb dX4_fill_5 (by decide) ?_
    refine lv_icmp_ge (tgt := 55) hx hb dX4_fill_7 (by decide) (fun hc2 => ?_) (fun hc2 => ?_)
    · rw [if_pos hc2] at hf
      have e0 := Option.some.inj hf
      subst e0
      exact hret _ _ _ _ hP hS dX4_fill_55
    · rw [if_neg hc2] at hf
      refine lv_aload_n hx hb dX4_fill_10 rfl (lv_at hl 0 rfl) ?_
      refine va_get (ci := 3) (v := .ref (ad (10 * i + (2 + 0)))) hx hb ht i_X4 hown hX.1 hP (10 * i + 1) (ct_nodes hi) rfl 0 (by decide) (ht _ kFL_RX4_9) (fun _ h9 => h9) rfl dX4_fill_11 ?_
      refine lv_iload_n hx hb dX4_fill_14 rfl (lv_at hl 1 rfl) ?_
      refine lv_iload_n hx hb dX4_fill_15 rfl (lv_at hl 2 rfl) ?_
      obtain ⟨hn3, hf⟩ := ngE _ hf
      refine cr_iast hD hx hb hX hP hS hi (by decide) hn3 dX4_fill_16 (fun H locs hP hS => ?_)
      refine lv_aload_n hx hb dX4_fill_17 rfl (lv_at hl 0 rfl) ?_
      refine va_get (ci := 3) (v := .ref (ad (10 * i + (2 + 1)))) hx hb ht i_X4 hown hX.1 hP (10 * i + 1) (ct_nodes hi) rfl 1 (by decide) (ht _ kFL_RX4_15) (fun _ h9 => h9) rfl dX4_fill_18 ?_
      refine lv_iload_n hx hb dX4_fill_21 rfl (lv_at hl 1 rfl) ?_
      refine lv_iload_n hx hb dX4_fill_22 rfl (lv_at hl 3 rfl) ?_
      obtain ⟨hn4, hf⟩ := ngE _ hf
      refine cr_iast hD hx hb hX hP hS hi (by decide) hn4 dX4_fill_23 (fun H locs hP hS => ?_)
      refine lv_aload_n hx hb dX4_fill_24 rfl (lv_at hl 0 rfl) ?_
      refine va_get (ci := 3) (v := .ref (ad (10 * i + (2 + 2)))) hx hb ht i_X4 hown hX.1 hP (10 * i + 1) (ct_nodes hi) rfl 2 (by decide) (ht _ kFL_RX4_18) (fun _ h9 => h9) rfl dX4_fill_25 ?_
      refine lv_iload_n hx hb dX4_fill_28 rfl (lv_at hl 1 rfl) ?_
      refine lv_iconst (v := (0 : Int32)) hx hb dX4_fill_29 (by decide) ?_
      obtain ⟨hn5, hf⟩ := ngE _ hf
      refine cr_iast hD hx hb hX hP hS hi (by decide) hn5 dX4_fill_30 (fun H locs hP hS => ?_)
      refine lv_aload_n hx hb dX4_fill_31 rfl (lv_at hl 0 rfl) ?_
      refine va_get (ci := 3) (v := .ref (ad (10 * i + (2 + 3)))) hx hb ht i_X4 hown hX.1 hP (10 * i + 1) (ct_nodes hi) rfl 3 (by decide) (ht _ kFL_RX4_21) (fun _ h9 => h9) rfl dX4_fill_32 ?_
      refine lv_iload_n hx hb dX4_fill_35 rfl (lv_at hl 1 rfl) ?_
      refine lv_iconst (v := (-1 : Int32)) hx hb dX4_fill_36 (by decide) ?_
      obtain ⟨hn6, hf⟩ := ngE _ hf
      refine cr_iast hD hx hb hX hP hS hi (by decide) hn6 dX4_fill_37 (fun H locs hP hS => ?_)
      refine lv_aload_n hx hb dX4_fill_38 rfl (lv_at hl 0 rfl) ?_
      refine va_get (ci := 3) (v := .ref (ad (10 * i + (2 + 4)))) hx hb ht i_X4 hown hX.1 hP (10 * i + 1) (ct_nodes hi) rfl 4 (by decide) (ht _ kFL_RX4_24) (fun _ h9 => h9) rfl dX4_fill_39 ?_
      refine lv_iload_n hx hb dX4_fill_42 rfl (lv_at hl 1 rfl) ?_
      refine lv_iconst (v := (-1 : Int32)) hx hb dX4_fill_43 (by decide) ?_
      obtain ⟨hn7, hf⟩ := ngE _ hf
      refine cr_iast hD hx hb hX hP hS hi (by decide) hn7 dX4_fill_44 (fun H locs hP hS => ?_)
      refine lv_aload_n hx hb dX4_fill_45 rfl (lv_at hl 0 rfl) ?_
      refine lv_dup hx hb dX4_fill_46 rfl ?_
      refine va_get (ci := 3) (v := .int ((u2 (u2 (u2 (u2 (u2 τ 0 x1.toNatClampNeg x2) 1 x1.toNatClampNeg x3) 2 x1.toNatClampNeg (0 : Int32)) 3 x1.toNatClampNeg (-1 : Int32)) 4 x1.toNatClampNeg (-1 : Int32)) 6 1)) hx hb ht i_X4 hown hX.1 hP (10 * i + 1) (ct_nodes hi) rfl 7 (by decide) (ht _ kFL_RX4_34) (fun _ h9 => h9) rfl dX4_fill_47 ?_
      refine lv_iconst (v := (1 : Int32)) hx hb dX4_fill_50 (by decide) ?_
      refine lv_iadd hx hb dX4_fill_51 ?_
      refine cr_putCount hD hx hb ht hown hX hP hS hi kFL_RX4_34 dX4_fill_52 (fun H locs hP hS => ?_)
      have e0 := Option.some.inj hf
      subst e0
      exact hret _ _ _ _ hP hS dX4_fill_55
def fX4_hangNew_63 (F : Nat) (τ : Tau) (x1 : Int32) (x2 : Int32) (x3 : Int32) (x4 : Int32) : Option (Int32 × Tau) := (fX4_freeSlot F τ).bind fun q5 => ((fX4_fill F τ q5 x1 x2).bind fun q6 => ((fX4_hang F q6 x3 x4 q5).bind fun q7 => (some (q5, q7))))
def fX4_hangNew_45 (F : Nat) (k14 : Tau → Int32 → Int32 → Int32 → Int32 → Int32 → Int32 → Option (Int32 × Tau)) (τ : Tau) (x1 : Int32) (x2 : Int32) (x3 : Int32) (x5 : Int32) (x6 : Int32) (y0 : Int32) : Option (Int32 × Tau) := (fX4_childOf F τ x5 y0).bind fun q8 => (k14 τ x1 x2 x3 y0 q8 (x6 + (1 : Int32)))
def fX4_hangNew_14 (F : Nat) : Nat → Tau → Int32 → Int32 → Int32 → Int32 → Int32 → Int32 → Option (Int32 × Tau)
  | 0, _, _, _, _, _, _, _ => none
  | n + 1, τ, x1, x2, x3, x4, x5, x6 => if (60 : Int32) ≤ x6 then (fX4_hangNew_63 F τ x1 x2 x3 x4) else (if x5 = (-1 : Int32) then (fX4_hangNew_63 F τ x1 x2 x3 x4) else ((fX4_keyOf F τ x5).bind fun q3 => (if q3 ≤ x1 then (fX4_hangNew_45 F (fun τ x1 x2 x3 x4 x5 x6 => fX4_hangNew_14 F n τ x1 x2 x3 x4 x5 x6) τ x1 x2 x5 x5 x6 (0 : Int32)) else (fX4_hangNew_45 F (fun τ x1 x2 x3 x4 x5 x6 => fX4_hangNew_14 F n τ x1 x2 x3 x4 x5 x6) τ x1 x2 x5 x5 x6 (1 : Int32)))))
def fX4_hangNew (F : Nat) (τ : Tau) (x1 : Int32) (x2 : Int32) : Option (Int32 × Tau) := fX4_hangNew_14 F F τ x1 x2 (-1 : Int32) (0 : Int32) (τ 6 0) (0 : Int32)
abbrev rX4_hangNew : Room := { frames := 1, cells := 0, slots := 0, locals := 23 }
theorem wX4_hangNew : kV yX4_hangNew cX4_hangNew 7 (some .int) 2 := ⟨kCO_yX4_hangNew, kIM_yX4_hangNew, kSE_yX4_hangNew, kIN_RX4, by decide +kernel, by decide +kernel, by decide +kernel⟩
set_option maxHeartbeats 4000000 in
set_option maxRecDepth 100000 in
theorem tX4_hangNew {l : Launch} {D : va_G} {cI cT cM : ClassId} {ad : Nat → Nat} (hD : gInj 167 ad) {F : Nat} {σ : Sig} {i : Nat} (hi : i < 16) {τ : Tau} {x1 : Int32} {x2 : Int32} {res : Int32 × Tau} (hf : fX4_hangNew F τ x1 x2 = some res) : CTi l yX4_hangNew cX4_hangNew 7 .int rX4_hangNew D (cTy cI cT cM) (gA 167 ad) [.ref (ad (10 * i + 1)), .int x1, .int x2] (cw cI cT cM ad (u3 σ i τ)) res.1 (cw cI cT cM ad (u3 σ i res.2)) := by
  refine ct_int (by decide) (Nat.le_of_ble_eq_true rfl) ?_
  intro p e s m args below meth c Q ls hx hb hml hown ht hX hret hP hS hl
  have hl : lv_has ls 7 [(0, .ref (ad (10 * i + 1))), (1, .int x1), (2, .int x2)] := hl
  have blk63 : ∀ (H : Heap) (locs : List Loc) (τ : Tau) (x1 : Int32) (x2 : Int32) (x3 : Int32) (x4 : Int32) (ls : Array Slot), va_P D vwCl (cw cI cT cM ad (u3 σ i τ)) H → va_S (gA 167 ad) s.heap H locs → lv_has ls 7 [(0, .ref (ad (10 * i + 1))), (1, .int x1), (2, .int x2), (3, .int x3), (4, .int x4)] → fX4_hangNew_63 F τ x1 x2 x3 x4 = some res → W p l e rX4_hangNew s m args below meth c H locs 0 0 Q (F0 m 63 ls []) := by
    intro H locs τ x1 x2 x3 x4 ls hP hS hl hf
    unfold fX4_hangNew_63 at hf
    refine lv_aload_n hx hb dX4_hangNew_63 rfl (lv_at hl 0 rfl) ?_
    obtain ⟨q5, hq5, hf⟩ := obE hf
    refine ct_cVi (rest := []) (tX4_freeSlot hD hi hq5) hx hb hml hown ht hX hP hS wX4_freeSlot kML_RX4_66 rfl rfl ⟨Nat.le_of_ble_eq_true rfl, Nat.le_of_ble_eq_true rfl⟩ (va_recv hX.1 hP rfl (ct_nodes hi)) rfl hl.1 rfl (Nat.le_of_ble_eq_true rfl) dX4_hangNew_64 (fun H locs hP hS => ?_)
    refine lv_istore (lv' := [(6, .int q5), (0, .ref (ad (10 * i + 1))), (1, .int x1), (2, .int x2), (3, .int x3), (4, .int x4)]) hx hb dX4_hangNew_67 hl (by decide) rfl (fun ls hl => ?_)
    refine lv_aload_n hx hb dX4_hangNew_69 rfl (lv_at hl 1 rfl) ?_
    refine lv_iload hx hb dX4_hangNew_70 (lv_at hl 0 rfl) ?_
    refine lv_iload_n hx hb dX4_hangNew_72 rfl (lv_at hl 2 rfl) ?_
    refine lv_iload_n hx hb dX4_hangNew_73 rfl (lv_at hl 3 rfl) ?_
    obtain ⟨q6, hq6, hf⟩ := obE hf
    refine ct_cVv (rest := []) (tX4_fill hD hi hq6) hx hb hml hown ht hX hP hS wX4_fill kML_RX4_70 rfl rfl ⟨Nat.le_of_ble_eq_true rfl, Nat.le_of_ble_eq_true rfl⟩ (va_recv hX.1 hP rfl (ct_nodes hi)) rfl hl.1 rfl (Nat.le_of_ble_eq_true rfl) dX4_hangNew_74 (fun H locs hP hS => ?_)
    refine lv_aload_n hx hb dX4_hangNew_77 rfl (lv_at hl 1 rfl) ?_
    refine lv_iload_n hx hb dX4_hangNew_78 rfl (lv_at hl 4 rfl) ?_
    refine lv_iload hx hb dX4_hangNew_79 (lv_at hl 5 rfl) ?_
    refine lv_iload hx hb dX4_hangNew_81 (lv_at hl 0 rfl) ?_
    obtain ⟨q7, hq7, hf⟩ := obE hf
    refine ct_cVv (rest := []) (tX4_hang hD hi hq7) hx hb hml hown ht hX hP hS wX4_hang kML_RX4_73 rfl rfl ⟨Nat.le_of_ble_eq_true rfl, Nat.le_of_ble_eq_true rfl⟩ (va_recv hX.1 hP rfl (ct_nodes hi)) rfl hl.1 rfl (Nat.le_of_ble_eq_true rfl) dX4_hangNew_83 (fun H locs hP hS => ?_)
    refine lv_iload hx hb dX4_hangNew_86 (lv_at hl 0 rfl) ?_
    have e0 := Option.some.inj hf
    subst e0
    exact hret _ _ _ _ hP hS dX4_hangNew_88
  have blk14 : ∀ (n14 : Nat) (H : Heap) (locs : List Loc) (τ : Tau) (x1 : Int32) (x2 : Int32) (x3 : Int32) (x4 : Int32) (x5 : Int32) (x6 : Int32) (ls : Array Slot), va_P D vwCl (cw cI cT cM ad (u3 σ i τ)) H → va_S (gA 167 ad) s.heap H locs → lv_has ls 7 [(0, .ref (ad (10 * i + 1))), (1, .int x1), (2, .int x2), (3, .int x3), (4, .int x4), (5, .int x5), (6, .int x6)] → fX4_hangNew_14 F n14 τ x1 x2 x3 x4 x5 x6 = some res → W p l e rX4_hangNew s m args below meth c H locs 0 0 Q (F0 m 14 ls []) := by
    intro n14
    induction n14 with
    | zero =>
      intro H locs τ x1 x2 x3 x4 x5 x6 ls hP hS hl hf
      rw [fX4_hangNew_14] at hf
      cases hf
    | succ n14 ih14 =>
      skip
      have blk45 : ∀ (H : Heap) (locs : List Loc) (τ : Tau) (x1 : Int32) (x2 : Int32) (x3 : Int32) (x5 : Int32) (x6 : Int32) (y0 : Int32) (ls : Array Slot), va_P D vwCl (cw cI cT cM ad (u3 σ i τ)) H → va_S (gA 167 ad) s.heap H locs → lv_has ls 7 [(0, .ref (ad (10 * i + 1))), (1, .int x1), (2, .int x2), (3, .int x3), (5, .int x5), (6, .int x6)] → fX4_hangNew_45 F (fun τ x1 x2 x3 x4 x5 x6 => fX4_hangNew_14 F n14 τ x1 x2 x3 x4 x5 x6) τ x1 x2 x3 x5 x6 y0 = some res → W p l e rX4_hangNew s m args below meth c H locs 0 0 Q (F0 m 45 ls [.int y0]) := by
        intro H locs τ x1 x2 x3 x5 x6 y0 ls hP hS hl hf
        unfold fX4_hangNew_45 at hf
        refine lv_istore (lv' := [(4, .int y0), (0, .ref (ad (10 * i + 1))), (1, .int x1), (2, .int x2), (3, .int x3), (5, .int x5), (6, .int x6)]) hx hb dX4_hangNew_45 hl (by decide) rfl (fun ls hl => ?_)
        refine lv_aload_n hx hb dX4_hangNew_47 rfl (lv_at hl 1 rfl) ?_
        refine lv_iload hx hb dX4_hangNew_48 (lv_at hl 5 rfl) ?_
        refine lv_iload hx hb dX4_hangNew_50 (lv_at hl 0 rfl) ?_
        obtain ⟨q8, hq8, hf⟩ := obE hf
        refine ct_cVi (rest := []) (tX4_childOf hD hi hq8) hx hb hml hown ht hX hP hS wX4_childOf kML_RX4_62 rfl rfl ⟨Nat.le_of_ble_eq_true rfl, Nat.le_of_ble_eq_true rfl⟩ (va_recv hX.1 hP rfl (ct_nodes hi)) rfl hl.1 rfl (Nat.le_of_ble_eq_true rfl) dX4_hangNew_52 (fun H locs hP hS => ?_)
        refine lv_istore (lv' := [(5, .int q8), (4, .int y0), (0, .ref (ad (10 * i + 1))), (1, .int x1), (2, .int x2), (3, .int x3), (6, .int x6)]) hx hb dX4_hangNew_55 hl (by decide) rfl (fun ls hl => ?_)
        refine lv_iinc (v := x6 + (1 : Int32)) (lv' := [(6, .int (x6 + (1 : Int32))), (5, .int q8), (4, .int y0), (0, .ref (ad (10 * i + 1))), (1, .int x1), (2, .int x2), (3, .int x3)]) hx hb dX4_hangNew_57 hl (k := 6) rfl rfl (by decide) rfl (fun ls hl => ?_)
        refine lv_goto (tgt := 14) hx hb dX4_hangNew_60 (by decide) ?_
        exact ih14 _ _ τ x1 x2 x3 y0 q8 (x6 + (1 : Int32)) ls hP hS (lv_sub hl [3, 4, 5, 6, 2, 1, 0] rfl) hf
      intro H locs τ x1 x2 x3 x4 x5 x6 ls hP hS hl hf
      rw [fX4_hangNew_14] at hf
      refine lv_iload hx hb dX4_hangNew_14 (lv_at hl 6 rfl) ?_
      refine lv_bipush (v := (60 : Int32)) hx hb dX4_hangNew_16 (by decide) ?_
      refine lv_icmp_ge (tgt := 63) hx hb dX4_hangNew_18 (by decide) (fun hc1 => ?_) (fun hc1 => ?_)
      · rw [if_pos hc1] at hf
        exact blk63 _ _ τ x1 x2 x3 x4 ls hP hS (lv_sub hl [0, 1, 2, 3, 4] rfl) hf
      · rw [if_neg hc1] at hf
        refine lv_iload hx hb dX4_hangNew_21 (lv_at hl 5 rfl) ?_
        refine lv_iconst (v := (-1 : Int32)) hx hb dX4_hangNew_23 (by decide) ?_
        refine lv_icmp_eq (tgt := 63) hx hb dX4_hangNew_24 (by decide) (fun hc2 => ?_) (fun hc2 => ?_)
        · rw [if_pos hc2] at hf
          exact blk63 _ _ τ x1 x2 x3 x4 ls hP hS (lv_sub hl [0, 1, 2, 3, 4] rfl) hf
        · rw [if_neg hc2] at hf
          refine lv_iload hx hb dX4_hangNew_27 (lv_at hl 5 rfl) ?_
          refine lv_istore_n (lv' := [(3, .int x5), (0, .ref (ad (10 * i + 1))), (1, .int x1), (2, .int x2), (4, .int x4), (5, .int x5), (6, .int x6)]) hx hb dX4_hangNew_29 rfl hl (by decide) rfl (fun ls hl => ?_)
          refine lv_iload_n hx hb dX4_hangNew_30 rfl (lv_at hl 2 rfl) ?_
          refine lv_aload_n hx hb dX4_hangNew_31 rfl (lv_at hl 1 rfl) ?_
          refine lv_iload hx hb dX4_hangNew_32 (lv_at hl 5 rfl) ?_
          obtain ⟨q3, hq3, hf⟩ := obE hf
          refine ct_cVi (rest := [.int x1]) (tX4_keyOf hD hi hq3) hx hb hml hown ht hX hP hS wX4_keyOf kML_RX4_59 rfl rfl ⟨Nat.le_of_ble_eq_true rfl, Nat.le_of_ble_eq_true rfl⟩ (va_recv hX.1 hP rfl (ct_nodes hi)) rfl hl.1 rfl (Nat.le_of_ble_eq_true rfl) dX4_hangNew_34 (fun H locs hP hS => ?_)
          refine lv_icmp_ge (tgt := 44) hx hb dX4_hangNew_37 (by decide) (fun hc4 => ?_) (fun hc4 => ?_)
          · rw [if_pos hc4] at hf
            refine lv_iconst (v := (0 : Int32)) hx hb dX4_hangNew_44 (by decide) ?_
            exact blk45 _ _ τ x1 x2 x5 x5 x6 (0 : Int32) ls hP hS (lv_sub hl [1, 2, 3, 0, 5, 6] rfl) hf
          · rw [if_neg hc4] at hf
            refine lv_iconst (v := (1 : Int32)) hx hb dX4_hangNew_40 (by decide) ?_
            refine lv_goto (tgt := 45) hx hb dX4_hangNew_41 (by decide) ?_
            exact blk45 _ _ τ x1 x2 x5 x5 x6 (1 : Int32) ls hP hS (lv_sub hl [1, 2, 3, 0, 5, 6] rfl) hf
  unfold fX4_hangNew at hf
  refine lv_iconst (v := (-1 : Int32)) hx hb dX4_hangNew_0 (by decide) ?_
  refine lv_istore_n (lv' := [(3, .int ((-1 : Int32))), (0, .ref (ad (10 * i + 1))), (1, .int x1), (2, .int x2)]) hx hb dX4_hangNew_1 rfl hl (by decide) rfl (fun ls hl => ?_)
  refine lv_iconst (v := (0 : Int32)) hx hb dX4_hangNew_2 (by decide) ?_
  refine lv_istore (lv' := [(4, .int ((0 : Int32))), (3, .int ((-1 : Int32))), (0, .ref (ad (10 * i + 1))), (1, .int x1), (2, .int x2)]) hx hb dX4_hangNew_3 hl (by decide) rfl (fun ls hl => ?_)
  refine lv_aload_n hx hb dX4_hangNew_5 rfl (lv_at hl 2 rfl) ?_
  refine va_get (ci := 3) (v := .int (τ 6 0)) hx hb ht i_X4 hown hX.1 hP (10 * i + 1) (ct_nodes hi) rfl 6 (by decide) (ht _ kFL_RX4_30) (fun _ h9 => h9) rfl dX4_hangNew_6 ?_
  refine lv_istore (lv' := [(5, .int (τ 6 0)), (4, .int ((0 : Int32))), (3, .int ((-1 : Int32))), (0, .ref (ad (10 * i + 1))), (1, .int x1), (2, .int x2)]) hx hb dX4_hangNew_9 hl (by decide) rfl (fun ls hl => ?_)
  refine lv_iconst (v := (0 : Int32)) hx hb dX4_hangNew_11 (by decide) ?_
  refine lv_istore (lv' := [(6, .int ((0 : Int32))), (5, .int (τ 6 0)), (4, .int ((0 : Int32))), (3, .int ((-1 : Int32))), (0, .ref (ad (10 * i + 1))), (1, .int x1), (2, .int x2)]) hx hb dX4_hangNew_12 hl (by decide) rfl (fun ls hl => ?_)
  exact blk14 F _ _ τ x1 x2 (-1 : Int32) (0 : Int32) (τ 6 0) (0 : Int32) ls hP hS (lv_sub hl [4, 5, 6, 3, 2, 1, 0] rfl) hf
def fX4_takeOff_45 (F : Nat) (τ : Tau) (x1 : Int32) (x3 : Int32) (y1 : Int32) (y2 : Int32) : Option (Int32 × Tau) := (fX4_hang F τ y1 y2 x3).bind fun q8 => (if x1 < 0 then (some (x3, q8)) else (if (60 : Int32) ≤ x1 then (some (x3, q8)) else (if x1 < 0 ∨ 60 ≤ x1.toNatClampNeg then none else (some (x3, u2 (u2 q8 0 x1.toNatClampNeg (-1 : Int32)) 6 1 (((u2 q8 0 x1.toNatClampNeg (-1 : Int32)) 6 1) - (1 : Int32)))))))
def fX4_takeOff_28 (F : Nat) (τ : Tau) (x1 : Int32) (x2 : Int32) (y0 : Int32) : Option (Int32 × Tau) := (fX4_leftOf F τ x2).bind fun q6 => (if q6 = x1 then (fX4_takeOff_45 F τ x1 y0 x2 (1 : Int32)) else (fX4_takeOff_45 F τ x1 y0 x2 (0 : Int32)))
def fX4_takeOff (F : Nat) (τ : Tau) (x1 : Int32) : Option (Int32 × Tau) := (fX4_parentOf F τ x1).bind fun q1 => ((fX4_leftOf F τ x1).bind fun q2 => (if q2 = (-1 : Int32) then ((fX4_rightOf F τ x1).bind fun q4 => (fX4_takeOff_28 F τ x1 q1 q4)) else ((fX4_leftOf F τ x1).bind fun q5 => (fX4_takeOff_28 F τ x1 q1 q5))))
abbrev rX4_takeOff : Room := { frames := 1, cells := 0, slots := 0, locals := 23 }
theorem wX4_takeOff : kV yX4_takeOff cX4_takeOff 4 (some .int) 1 := ⟨kCO_yX4_takeOff, kIM_yX4_takeOff, kSE_yX4_takeOff, kIN_RX4, by decide +kernel, by decide +kernel, by decide +kernel⟩
set_option maxHeartbeats 4000000 in
set_option maxRecDepth 100000 in
theorem tX4_takeOff {l : Launch} {D : va_G} {cI cT cM : ClassId} {ad : Nat → Nat} (hD : gInj 167 ad) {F : Nat} {σ : Sig} {i : Nat} (hi : i < 16) {τ : Tau} {x1 : Int32} {res : Int32 × Tau} (hf : fX4_takeOff F τ x1 = some res) : CTi l yX4_takeOff cX4_takeOff 4 .int rX4_takeOff D (cTy cI cT cM) (gA 167 ad) [.ref (ad (10 * i + 1)), .int x1] (cw cI cT cM ad (u3 σ i τ)) res.1 (cw cI cT cM ad (u3 σ i res.2)) := by
  refine ct_int (by decide) (Nat.le_of_ble_eq_true rfl) ?_
  intro p e s m args below meth c Q ls hx hb hml hown ht hX hret hP hS hl
  have hl : lv_has ls 4 [(0, .ref (ad (10 * i + 1))), (1, .int x1)] := hl
  have blk45 : ∀ (H : Heap) (locs : List Loc) (τ : Tau) (x1 : Int32) (x3 : Int32) (y1 : Int32) (y2 : Int32) (ls : Array Slot), va_P D vwCl (cw cI cT cM ad (u3 σ i τ)) H → va_S (gA 167 ad) s.heap H locs → lv_has ls 4 [(0, .ref (ad (10 * i + 1))), (1, .int x1), (3, .int x3)] → fX4_takeOff_45 F τ x1 x3 y1 y2 = some res → W p l e rX4_takeOff s m args below meth c H locs 0 0 Q (F0 m 45 ls [.int y2, .int y1, .ref (ad (10 * i + 1))]) := by
    intro H locs τ x1 x3 y1 y2 ls hP hS hl hf
    unfold fX4_takeOff_45 at hf
    refine lv_iload_n hx hb dX4_takeOff_45 rfl (lv_at hl 2 rfl) ?_
    obtain ⟨q8, hq8, hf⟩ := obE hf
    refine ct_cVv (rest := []) (tX4_hang hD hi hq8) hx hb hml hown ht hX hP hS wX4_hang kML_RX4_73 rfl rfl ⟨Nat.le_of_ble_eq_true rfl, Nat.le_of_ble_eq_true rfl⟩ (va_recv hX.1 hP rfl (ct_nodes hi)) rfl hl.1 rfl (Nat.le_of_ble_eq_true rfl) dX4_takeOff_46 (fun H locs hP hS => ?_)
    refine lv_iload_n hx hb dX4_takeOff_49 rfl (lv_at hl 1 rfl) ?_
    refine lv_if_lt (tgt := 76) hx hb dX4_takeOff_50 (by decide) (fun hc9 => ?_) (fun hc9 => ?_)
    · rw [if_pos hc9] at hf
      refine lv_iload_n hx hb dX4_takeOff_76 rfl (lv_at hl 2 rfl) ?_
      have e0 := Option.some.inj hf
      subst e0
      exact hret _ _ _ _ hP hS dX4_takeOff_77
    · rw [if_neg hc9] at hf
      refine lv_iload_n hx hb dX4_takeOff_53 rfl (lv_at hl 1 rfl) ?_
      refine lv_bipush (v := (60 : Int32)) hx hb dX4_takeOff_54 (by decide) ?_
      refine lv_icmp_ge (tgt := 76) hx hb dX4_takeOff_56 (by decide) (fun hc10 => ?_) (fun hc10 => ?_)
      · rw [if_pos hc10] at hf
        refine lv_iload_n hx hb dX4_takeOff_76 rfl (lv_at hl 2 rfl) ?_
        have e0 := Option.some.inj hf
        subst e0
        exact hret _ _ _ _ hP hS dX4_takeOff_77
      · rw [if_neg hc10] at hf
        refine lv_aload_n hx hb dX4_takeOff_59 rfl (lv_at hl 0 rfl) ?_
        refine va_get (ci := 3) (v := .ref (ad (10 * i + (2 + 0)))) hx hb ht i_X4 hown hX.1 hP (10 * i + 1) (ct_nodes hi) rfl 0 (by decide) (ht _ kFL_RX4_9) (fun _ h9 => h9) rfl dX4_takeOff_60 ?_
        refine lv_iload_n hx hb dX4_takeOff_63 rfl (lv_at hl 1 rfl) ?_
        refine lv_iconst (v := (-1 : Int32)) hx hb dX4_takeOff_64 (by decide) ?_
        obtain ⟨hn11, hf⟩ := ngE _ hf
        refine cr_iast hD hx hb hX hP hS hi (by decide) hn11 dX4_takeOff_65 (fun H locs hP hS => ?_)
        refine lv_aload_n hx hb dX4_takeOff_66 rfl (lv_at hl 0 rfl) ?_
        refine lv_dup hx hb dX4_takeOff_67 rfl ?_
        refine va_get (ci := 3) (v := .int ((u2 q8 0 x1.toNatClampNeg (-1 : Int32)) 6 1)) hx hb ht i_X4 hown hX.1 hP (10 * i + 1) (ct_nodes hi) rfl 7 (by decide) (ht _ kFL_RX4_34) (fun _ h9 => h9) rfl dX4_takeOff_68 ?_
        refine lv_iconst (v := (1 : Int32)) hx hb dX4_takeOff_71 (by decide) ?_
        refine lv_isub hx hb dX4_takeOff_72 ?_
        refine cr_putCount hD hx hb ht hown hX hP hS hi kFL_RX4_34 dX4_takeOff_73 (fun H locs hP hS => ?_)
        refine lv_iload_n hx hb dX4_takeOff_76 rfl (lv_at hl 2 rfl) ?_
        have e0 := Option.some.inj hf
        subst e0
        exact hret _ _ _ _ hP hS dX4_takeOff_77
  have blk28 : ∀ (H : Heap) (locs : List Loc) (τ : Tau) (x1 : Int32) (x2 : Int32) (y0 : Int32) (ls : Array Slot), va_P D vwCl (cw cI cT cM ad (u3 σ i τ)) H → va_S (gA 167 ad) s.heap H locs → lv_has ls 4 [(0, .ref (ad (10 * i + 1))), (1, .int x1), (2, .int x2)] → fX4_takeOff_28 F τ x1 x2 y0 = some res → W p l e rX4_takeOff s m args below meth c H locs 0 0 Q (F0 m 28 ls [.int y0]) := by
    intro H locs τ x1 x2 y0 ls hP hS hl hf
    unfold fX4_takeOff_28 at hf
    refine lv_istore_n (lv' := [(3, .int y0), (0, .ref (ad (10 * i + 1))), (1, .int x1), (2, .int x2)]) hx hb dX4_takeOff_28 rfl hl (by decide) rfl (fun ls hl => ?_)
    refine lv_aload_n hx hb dX4_takeOff_29 rfl (lv_at hl 1 rfl) ?_
    refine lv_iload_n hx hb dX4_takeOff_30 rfl (lv_at hl 3 rfl) ?_
    refine lv_aload_n hx hb dX4_takeOff_31 rfl (lv_at hl 1 rfl) ?_
    refine lv_iload_n hx hb dX4_takeOff_32 rfl (lv_at hl 3 rfl) ?_
    obtain ⟨q6, hq6, hf⟩ := obE hf
    refine ct_cVi (rest := [.int x2, .ref (ad (10 * i + 1))]) (tX4_leftOf hD hi hq6) hx hb hml hown ht hX hP hS wX4_leftOf kML_RX4_53 rfl rfl ⟨Nat.le_of_ble_eq_true rfl, Nat.le_of_ble_eq_true rfl⟩ (va_recv hX.1 hP rfl (ct_nodes hi)) rfl hl.1 rfl (Nat.le_of_ble_eq_true rfl) dX4_takeOff_33 (fun H locs hP hS => ?_)
    refine lv_iload_n hx hb dX4_takeOff_36 rfl (lv_at hl 2 rfl) ?_
    refine lv_icmp_ne (tgt := 44) hx hb dX4_takeOff_37 (by decide) (fun hc7 => ?_) (fun hc7 => ?_)
    · rw [if_neg hc7] at hf
      refine lv_iconst (v := (0 : Int32)) hx hb dX4_takeOff_44 (by decide) ?_
      exact blk45 _ _ τ x1 y0 x2 (0 : Int32) ls hP hS (lv_sub hl [1, 2, 0] rfl) hf
    · rw [if_pos hc7] at hf
      refine lv_iconst (v := (1 : Int32)) hx hb dX4_takeOff_40 (by decide) ?_
      refine lv_goto (tgt := 45) hx hb dX4_takeOff_41 (by decide) ?_
      exact blk45 _ _ τ x1 y0 x2 (1 : Int32) ls hP hS (lv_sub hl [1, 2, 0] rfl) hf
  unfold fX4_takeOff at hf
  refine lv_aload_n hx hb dX4_takeOff_0 rfl (lv_at hl 0 rfl) ?_
  refine lv_iload_n hx hb dX4_takeOff_1 rfl (lv_at hl 1 rfl) ?_
  obtain ⟨q1, hq1, hf⟩ := obE hf
  refine ct_cVi (rest := []) (tX4_parentOf hD hi hq1) hx hb hml hown ht hX hP hS wX4_parentOf kML_RX4_77 rfl rfl ⟨Nat.le_of_ble_eq_true rfl, Nat.le_of_ble_eq_true rfl⟩ (va_recv hX.1 hP rfl (ct_nodes hi)) rfl hl.1 rfl (Nat.le_of_ble_eq_true rfl) dX4_takeOff_2 (fun H locs hP hS => ?_)
  refine lv_istore_n (lv' := [(2, .int q1), (0, .ref (ad (10 * i + 1))), (1, .int x1)]) hx hb dX4_takeOff_5 rfl hl (by decide) rfl (fun ls hl => ?_)
  refine lv_aload_n hx hb dX4_takeOff_6 rfl (lv_at hl 1 rfl) ?_
  refine lv_iload_n hx hb dX4_takeOff_7 rfl (lv_at hl 2 rfl) ?_
  obtain ⟨q2, hq2, hf⟩ := obE hf
  refine ct_cVi (rest := []) (tX4_leftOf hD hi hq2) hx hb hml hown ht hX hP hS wX4_leftOf kML_RX4_53 rfl rfl ⟨Nat.le_of_ble_eq_true rfl, Nat.le_of_ble_eq_true rfl⟩ (va_recv hX.1 hP rfl (ct_nodes hi)) rfl hl.1 rfl (Nat.le_of_ble_eq_true rfl) dX4_takeOff_8 (fun H locs hP hS => ?_)
  refine lv_iconst (v := (-1 : Int32)) hx hb dX4_takeOff_11 (by decide) ?_
  refine lv_icmp_eq (tgt := 23) hx hb dX4_takeOff_12 (by decide) (fun hc3 => ?_) (fun hc3 => ?_)
  · rw [if_pos hc3] at hf
    refine lv_aload_n hx hb dX4_takeOff_23 rfl (lv_at hl 1 rfl) ?_
    refine lv_iload_n hx hb dX4_takeOff_24 rfl (lv_at hl 2 rfl) ?_
    obtain ⟨q4, hq4, hf⟩ := obE hf
    refine ct_cVi (rest := []) (tX4_rightOf hD hi hq4) hx hb hml hown ht hX hP hS wX4_rightOf kML_RX4_56 rfl rfl ⟨Nat.le_of_ble_eq_true rfl, Nat.le_of_ble_eq_true rfl⟩ (va_recv hX.1 hP rfl (ct_nodes hi)) rfl hl.1 rfl (Nat.le_of_ble_eq_true rfl) dX4_takeOff_25 (fun H locs hP hS => ?_)
    exact blk28 _ _ τ x1 q1 q4 ls hP hS (lv_sub hl [1, 2, 0] rfl) hf
  · rw [if_neg hc3] at hf
    refine lv_aload_n hx hb dX4_takeOff_15 rfl (lv_at hl 1 rfl) ?_
    refine lv_iload_n hx hb dX4_takeOff_16 rfl (lv_at hl 2 rfl) ?_
    obtain ⟨q5, hq5, hf⟩ := obE hf
    refine ct_cVi (rest := []) (tX4_leftOf hD hi hq5) hx hb hml hown ht hX hP hS wX4_leftOf kML_RX4_53 rfl rfl ⟨Nat.le_of_ble_eq_true rfl, Nat.le_of_ble_eq_true rfl⟩ (va_recv hX.1 hP rfl (ct_nodes hi)) rfl hl.1 rfl (Nat.le_of_ble_eq_true rfl) dX4_takeOff_17 (fun H locs hP hS => ?_)
    refine lv_goto (tgt := 28) hx hb dX4_takeOff_20 (by decide) ?_
    exact blk28 _ _ τ x1 q1 q5 ls hP hS (lv_sub hl [1, 2, 0] rfl) hf
def fX4_copyKeyAndWorth (F : Nat) (τ : Tau) (x1 : Int32) (x2 : Int32) : Option (Tau) := if x1 < 0 then (some τ) else (if (60 : Int32) ≤ x1 then (some τ) else (if x2 < 0 then (some τ) else (if (60 : Int32) ≤ x2 then (some τ) else (if x1 < 0 ∨ 60 ≤ x1.toNatClampNeg then none else (if x2 < 0 ∨ 60 ≤ x2.toNatClampNeg then none else (if x1 < 0 ∨ 60 ≤ x1.toNatClampNeg then none else (if x2 < 0 ∨ 60 ≤ x2.toNatClampNeg then none else (some (u2 (u2 τ 0 x2.toNatClampNeg (τ 0 x1.toNatClampNeg)) 1 x2.toNatClampNeg ((u2 τ 0 x2.toNatClampNeg (τ 0 x1.toNatClampNeg)) 1 x1.toNatClampNeg))))))))))
abbrev rX4_copyKeyAndWorth : Room := { frames := 0, cells := 0, slots := 0, locals := 0 }
theorem wX4_copyKeyAndWorth : kV yX4_copyKeyAndWorth cX4_copyKeyAndWorth 3 none 2 := ⟨kCO_yX4_copyKeyAndWorth, kIM_yX4_copyKeyAndWorth, kSE_yX4_copyKeyAndWorth, kIN_RX4, by decide +kernel, by decide +kernel, by decide +kernel⟩
set_option maxHeartbeats 4000000 in
set_option maxRecDepth 100000 in
theorem tX4_copyKeyAndWorth {l : Launch} {D : va_G} {cI cT cM : ClassId} {ad : Nat → Nat} (hD : gInj 167 ad) {F : Nat} {σ : Sig} {i : Nat} (hi : i < 16) {τ : Tau} {x1 : Int32} {x2 : Int32} {res : Tau} (hf : fX4_copyKeyAndWorth F τ x1 x2 = some res) : CTv l yX4_copyKeyAndWorth cX4_copyKeyAndWorth 3 rX4_copyKeyAndWorth D (cTy cI cT cM) (gA 167 ad) [.ref (ad (10 * i + 1)), .int x1, .int x2] (cw cI cT cM ad (u3 σ i τ)) (cw cI cT cM ad (u3 σ i res)) := by
  refine ct_void (by decide) (Nat.le_of_ble_eq_true rfl) ?_
  intro p e s m args below meth c Q ls hx hb hml hown ht hX hret hP hS hl
  have hl : lv_has ls 3 [(0, .ref (ad (10 * i + 1))), (1, .int x1), (2, .int x2)] := hl
  unfold fX4_copyKeyAndWorth at hf
  refine lv_iload_n hx hb dX4_copyKeyAndWorth_0 rfl (lv_at hl 1 rfl) ?_
  refine lv_if_lt (tgt := 44) hx hb dX4_copyKeyAndWorth_1 (by decide) (fun hc1 => ?_) (fun hc1 => ?_)
  · rw [if_pos hc1] at hf
    have e0 := Option.some.inj hf
    subst e0
    exact hret _ _ _ _ hP hS dX4_copyKeyAndWorth_44
  · rw [if_neg hc1] at hf
    refine lv_iload_n hx hb dX4_copyKeyAndWorth_4 rfl (lv_at hl 1 rfl) ?_
    refine lv_bipush (v := (60 : Int32)) hx hb dX4_copyKeyAndWorth_5 (by decide) ?_
    refine lv_icmp_ge (tgt := 44) hx hb dX4_copyKeyAndWorth_7 (by decide) (fun hc2 => ?_) (fun hc2 => ?_)
    · rw [if_pos hc2] at hf
      have e0 := Option.some.inj hf
      subst e0
      exact hret _ _ _ _ hP hS dX4_copyKeyAndWorth_44
    · rw [if_neg hc2] at hf
      refine lv_iload_n hx hb dX4_copyKeyAndWorth_10 rfl (lv_at hl 2 rfl) ?_
      refine lv_if_lt (tgt := 44) hx hb dX4_copyKeyAndWorth_11 (by decide) (fun hc3 => ?_) (fun hc3 => ?_)
      · rw [if_pos hc3] at hf
        have e0 := Option.some.inj hf
        subst e0
        exact hret _ _ _ _ hP hS dX4_copyKeyAndWorth_44
      · rw [if_neg hc3] at hf
        refine lv_iload_n hx hb dX4_copyKeyAndWorth_14 rfl (lv_at hl 2 rfl) ?_
        refine lv_bipush (v := (60 : Int32)) hx hb dX4_copyKeyAndWorth_15 (by decide) ?_
        refine lv_icmp_ge (tgt := 44) hx hb dX4_copyKeyAndWorth_17 (by decide) (fun hc4 => ?_) (fun hc4 => ?_)
        · rw [if_pos hc4] at hf
          have e0 := Option.some.inj hf
          subst e0
          exact hret _ _ _ _ hP hS dX4_copyKeyAndWorth_44
        · rw [if_neg hc4] at hf
          refine lv_aload_n hx hb dX4_copyKeyAndWorth_20 rfl (lv_at hl 0 rfl) ?_
          refine va_get (ci := 3) (v := .ref (ad (10 * i + (2 + 0)))) hx hb ht i_X4 hown hX.1 hP (10 * i + 1) (ct_nodes hi) rfl 0 (by decide) (ht _ kFL_RX4_9) (fun _ h9 => h9) rfl dX4_copyKeyAndWorth_21 ?_
          refine lv_iload_n hx hb dX4_copyKeyAndWorth_24 rfl (lv_at hl 2 rfl) ?_
          refine lv_aload_n hx hb dX4_copyKeyAndWorth_25 rfl (lv_at hl 0 rfl) ?_
          refine va_get (ci := 3) (v := .ref (ad (10 * i + (2 + 0)))) hx hb ht i_X4 hown hX.1 hP (10 * i + 1) (ct_nodes hi) rfl 0 (by decide) (ht _ kFL_RX4_9) (fun _ h9 => h9) rfl dX4_copyKeyAndWorth_26 ?_
          refine lv_iload_n hx hb dX4_copyKeyAndWorth_29 rfl (lv_at hl 1 rfl) ?_
          obtain ⟨hn5, hf⟩ := ngE _ hf
          refine cr_ild hx hb hX hP hi (by decide) hn5 dX4_copyKeyAndWorth_30 ?_
          obtain ⟨hn6, hf⟩ := ngE _ hf
          refine cr_iast hD hx hb hX hP hS hi (by decide) hn6 dX4_copyKeyAndWorth_31 (fun H locs hP hS => ?_)
          refine lv_aload_n hx hb dX4_copyKeyAndWorth_32 rfl (lv_at hl 0 rfl) ?_
          refine va_get (ci := 3) (v := .ref (ad (10 * i + (2 + 1)))) hx hb ht i_X4 hown hX.1 hP (10 * i + 1) (ct_nodes hi) rfl 1 (by decide) (ht _ kFL_RX4_15) (fun _ h9 => h9) rfl dX4_copyKeyAndWorth_33 ?_
          refine lv_iload_n hx hb dX4_copyKeyAndWorth_36 rfl (lv_at hl 2 rfl) ?_
          refine lv_aload_n hx hb dX4_copyKeyAndWorth_37 rfl (lv_at hl 0 rfl) ?_
          refine va_get (ci := 3) (v := .ref (ad (10 * i + (2 + 1)))) hx hb ht i_X4 hown hX.1 hP (10 * i + 1) (ct_nodes hi) rfl 1 (by decide) (ht _ kFL_RX4_15) (fun _ h9 => h9) rfl dX4_copyKeyAndWorth_38 ?_
          refine lv_iload_n hx hb dX4_copyKeyAndWorth_41 rfl (lv_at hl 1 rfl) ?_
          obtain ⟨hn7, hf⟩ := ngE _ hf
          refine cr_ild hx hb hX hP hi (by decide) hn7 dX4_copyKeyAndWorth_42 ?_
          obtain ⟨hn8, hf⟩ := ngE _ hf
          refine cr_iast hD hx hb hX hP hS hi (by decide) hn8 dX4_copyKeyAndWorth_43 (fun H locs hP hS => ?_)
          have e0 := Option.some.inj hf
          subst e0
          exact hret _ _ _ _ hP hS dX4_copyKeyAndWorth_44
def fX4_turnOverParent_84 (F : Nat) (τ : Tau) (x1 : Int32) (x2 : Int32) (x3 : Int32) (x4 : Int32) (y1 : Int32) (y2 : Int32) : Option (Tau) := (fX4_hang F τ y1 y2 x2).bind fun q12 => ((fX4_hang F q12 x3 x4 x1).bind fun q13 => (some q13))
def fX4_turnOverParent_66 (F : Nat) (τ : Tau) (x1 : Int32) (x2 : Int32) (x3 : Int32) (x4 : Int32) (x5 : Int32) (y1 : Int32) (y2 : Int32) (y4 : Int32) (y5 : Int32) : Option (Tau) := (fX4_childOf F τ y4 y5).bind fun q9 => ((fX4_hang F τ y1 y2 q9).bind fun q10 => (if x5 = 0 then (fX4_turnOverParent_84 F q10 x1 x2 x3 x4 x1 (1 : Int32)) else (fX4_turnOverParent_84 F q10 x1 x2 x3 x4 x1 (0 : Int32))))
def fX4_turnOverParent_48 (F : Nat) (τ : Tau) (x1 : Int32) (x2 : Int32) (x3 : Int32) (x4 : Int32) (y0 : Int32) : Option (Tau) := if y0 = 0 then (fX4_turnOverParent_66 F τ x1 x2 x3 x4 y0 x2 y0 x1 (1 : Int32)) else (fX4_turnOverParent_66 F τ x1 x2 x3 x4 y0 x2 y0 x1 (0 : Int32))
def fX4_turnOverParent_32 (F : Nat) (τ : Tau) (x1 : Int32) (x2 : Int32) (x3 : Int32) (y0 : Int32) : Option (Tau) := (fX4_leftOf F τ x2).bind fun q6 => (if q6 = x1 then (fX4_turnOverParent_48 F τ x1 x2 x3 y0 (1 : Int32)) else (fX4_turnOverParent_48 F τ x1 x2 x3 y0 (0 : Int32)))
def fX4_turnOverParent (F : Nat) (τ : Tau) (x1 : Int32) : Option (Tau) := (fX4_parentOf F τ x1).bind fun q1 => (if q1 = (-1 : Int32) then (some τ) else ((fX4_parentOf F τ q1).bind fun q3 => ((fX4_leftOf F τ q3).bind fun q4 => (if q4 = q1 then (fX4_turnOverParent_32 F τ x1 q1 q3 (1 : Int32)) else (fX4_turnOverParent_32 F τ x1 q1 q3 (0 : Int32))))))
abbrev rX4_turnOverParent : Room := { frames := 1, cells := 0, slots := 0, locals := 23 }
theorem wX4_turnOverParent : kV yX4_turnOverParent cX4_turnOverParent 6 none 1 := ⟨kCO_yX4_turnOverParent, kIM_yX4_turnOverParent, kSE_yX4_turnOverParent, kIN_RX4, by decide +kernel, by decide +kernel, by decide +kernel⟩
set_option maxHeartbeats 4000000 in
set_option maxRecDepth 100000 in
theorem tX4_turnOverParent {l : Launch} {D : va_G} {cI cT cM : ClassId} {ad : Nat → Nat} (hD : gInj 167 ad) {F : Nat} {σ : Sig} {i : Nat} (hi : i < 16) {τ : Tau} {x1 : Int32} {res : Tau} (hf : fX4_turnOverParent F τ x1 = some res) : CTv l yX4_turnOverParent cX4_turnOverParent 6 rX4_turnOverParent D (cTy cI cT cM) (gA 167 ad) [.ref (ad (10 * i + 1)), .int x1] (cw cI cT cM ad (u3 σ i τ)) (cw cI cT cM ad (u3 σ i res)) := by
  refine ct_void (by decide) (Nat.le_of_ble_eq_true rfl) ?_
  intro p e s m args below meth c Q ls hx hb hml hown ht hX hret hP hS hl
  have hl : lv_has ls 6 [(0, .ref (ad (10 * i + 1))), (1, .int x1)] := hl
  have blk84 : ∀ (H : Heap) (locs : List Loc) (τ : Tau) (x1 : Int32) (x2 : Int32) (x3 : Int32) (x4 : Int32) (y1 : Int32) (y2 : Int32) (ls : Array Slot), va_P D vwCl (cw cI cT cM ad (u3 σ i τ)) H → va_S (gA 167 ad) s.heap H locs → lv_has ls 6 [(0, .ref (ad (10 * i + 1))), (1, .int x1), (2, .int x2), (3, .int x3), (4, .int x4)] → fX4_turnOverParent_84 F τ x1 x2 x3 x4 y1 y2 = some res → W p l e rX4_turnOverParent s m args below meth c H locs 0 0 Q (F0 m 84 ls [.int y2, .int y1, .ref (ad (10 * i + 1))]) := by
    intro H locs τ x1 x2 x3 x4 y1 y2 ls hP hS hl hf
    unfold fX4_turnOverParent_84 at hf
    refine lv_iload_n hx hb dX4_turnOverParent_84 rfl (lv_at hl 2 rfl) ?_
    obtain ⟨q12, hq12, hf⟩ := obE hf
    refine ct_cVv (rest := []) (tX4_hang hD hi hq12) hx hb hml hown ht hX hP hS wX4_hang kML_RX4_73 rfl rfl ⟨Nat.le_of_ble_eq_true rfl, Nat.le_of_ble_eq_true rfl⟩ (va_recv hX.1 hP rfl (ct_nodes hi)) rfl hl.1 rfl (Nat.le_of_ble_eq_true rfl) dX4_turnOverParent_85 (fun H locs hP hS => ?_)
    refine lv_aload_n hx hb dX4_turnOverParent_88 rfl (lv_at hl 0 rfl) ?_
    refine lv_iload_n hx hb dX4_turnOverParent_89 rfl (lv_at hl 3 rfl) ?_
    refine lv_iload hx hb dX4_turnOverParent_90 (lv_at hl 4 rfl) ?_
    refine lv_iload_n hx hb dX4_turnOverParent_92 rfl (lv_at hl 1 rfl) ?_
    obtain ⟨q13, hq13, hf⟩ := obE hf
    refine ct_cVv (rest := []) (tX4_hang hD hi hq13) hx hb hml hown ht hX hP hS wX4_hang kML_RX4_73 rfl rfl ⟨Nat.le_of_ble_eq_true rfl, Nat.le_of_ble_eq_true rfl⟩ (va_recv hX.1 hP rfl (ct_nodes hi)) rfl hl.1 rfl (Nat.le_of_ble_eq_true rfl) dX4_turnOverParent_93 (fun H locs hP hS => ?_)
    have e0 := Option.some.inj hf
    subst e0
    exact hret _ _ _ _ hP hS dX4_turnOverParent_96
  have blk66 : ∀ (H : Heap) (locs : List Loc) (τ : Tau) (x1 : Int32) (x2 : Int32) (x3 : Int32) (x4 : Int32) (x5 : Int32) (y1 : Int32) (y2 : Int32) (y4 : Int32) (y5 : Int32) (ls : Array Slot), va_P D vwCl (cw cI cT cM ad (u3 σ i τ)) H → va_S (gA 167 ad) s.heap H locs → lv_has ls 6 [(0, .ref (ad (10 * i + 1))), (1, .int x1), (2, .int x2), (3, .int x3), (4, .int x4), (5, .int x5)] → fX4_turnOverParent_66 F τ x1 x2 x3 x4 x5 y1 y2 y4 y5 = some res → W p l e rX4_turnOverParent s m args below meth c H locs 0 0 Q (F0 m 66 ls [.int y5, .int y4, .ref (ad (10 * i + 1)), .int y2, .int y1, .ref (ad (10 * i + 1))]) := by
    intro H locs τ x1 x2 x3 x4 x5 y1 y2 y4 y5 ls hP hS hl hf
    unfold fX4_turnOverParent_66 at hf
    obtain ⟨q9, hq9, hf⟩ := obE hf
    refine ct_cVi (rest := [.int y2, .int y1, .ref (ad (10 * i + 1))]) (tX4_childOf hD hi hq9) hx hb hml hown ht hX hP hS wX4_childOf kML_RX4_62 rfl rfl ⟨Nat.le_of_ble_eq_true rfl, Nat.le_of_ble_eq_true rfl⟩ (va_recv hX.1 hP rfl (ct_nodes hi)) rfl hl.1 rfl (Nat.le_of_ble_eq_true rfl) dX4_turnOverParent_66 (fun H locs hP hS => ?_)
    obtain ⟨q10, hq10, hf⟩ := obE hf
    refine ct_cVv (rest := []) (tX4_hang hD hi hq10) hx hb hml hown ht hX hP hS wX4_hang kML_RX4_73 rfl rfl ⟨Nat.le_of_ble_eq_true rfl, Nat.le_of_ble_eq_true rfl⟩ (va_recv hX.1 hP rfl (ct_nodes hi)) rfl hl.1 rfl (Nat.le_of_ble_eq_true rfl) dX4_turnOverParent_69 (fun H locs hP hS => ?_)
    refine lv_aload_n hx hb dX4_turnOverParent_72 rfl (lv_at hl 0 rfl) ?_
    refine lv_iload_n hx hb dX4_turnOverParent_73 rfl (lv_at hl 1 rfl) ?_
    refine lv_iload hx hb dX4_turnOverParent_74 (lv_at hl 5 rfl) ?_
    refine lv_if_ne (tgt := 83) hx hb dX4_turnOverParent_76 (by decide) (fun hc11 => ?_) (fun hc11 => ?_)
    · rw [if_neg hc11] at hf
      refine lv_iconst (v := (0 : Int32)) hx hb dX4_turnOverParent_83 (by decide) ?_
      exact blk84 _ _ q10 x1 x2 x3 x4 x1 (0 : Int32) ls hP hS (lv_sub hl [0, 1, 2, 3, 4] rfl) hf
    · rw [if_pos hc11] at hf
      refine lv_iconst (v := (1 : Int32)) hx hb dX4_turnOverParent_79 (by decide) ?_
      refine lv_goto (tgt := 84) hx hb dX4_turnOverParent_80 (by decide) ?_
      exact blk84 _ _ q10 x1 x2 x3 x4 x1 (1 : Int32) ls hP hS (lv_sub hl [0, 1, 2, 3, 4] rfl) hf
  have blk48 : ∀ (H : Heap) (locs : List Loc) (τ : Tau) (x1 : Int32) (x2 : Int32) (x3 : Int32) (x4 : Int32) (y0 : Int32) (ls : Array Slot), va_P D vwCl (cw cI cT cM ad (u3 σ i τ)) H → va_S (gA 167 ad) s.heap H locs → lv_has ls 6 [(0, .ref (ad (10 * i + 1))), (1, .int x1), (2, .int x2), (3, .int x3), (4, .int x4)] → fX4_turnOverParent_48 F τ x1 x2 x3 x4 y0 = some res → W p l e rX4_turnOverParent s m args below meth c H locs 0 0 Q (F0 m 48 ls [.int y0]) := by
    intro H locs τ x1 x2 x3 x4 y0 ls hP hS hl hf
    unfold fX4_turnOverParent_48 at hf
    refine lv_istore (lv' := [(5, .int y0), (0, .ref (ad (10 * i + 1))), (1, .int x1), (2, .int x2), (3, .int x3), (4, .int x4)]) hx hb dX4_turnOverParent_48 hl (by decide) rfl (fun ls hl => ?_)
    refine lv_aload_n hx hb dX4_turnOverParent_50 rfl (lv_at hl 1 rfl) ?_
    refine lv_iload_n hx hb dX4_turnOverParent_51 rfl (lv_at hl 3 rfl) ?_
    refine lv_iload hx hb dX4_turnOverParent_52 (lv_at hl 0 rfl) ?_
    refine lv_aload_n hx hb dX4_turnOverParent_54 rfl (lv_at hl 1 rfl) ?_
    refine lv_iload_n hx hb dX4_turnOverParent_55 rfl (lv_at hl 2 rfl) ?_
    refine lv_iload hx hb dX4_turnOverParent_56 (lv_at hl 0 rfl) ?_
    refine lv_if_ne (tgt := 65) hx hb dX4_turnOverParent_58 (by decide) (fun hc8 => ?_) (fun hc8 => ?_)
    · rw [if_neg hc8] at hf
      refine lv_iconst (v := (0 : Int32)) hx hb dX4_turnOverParent_65 (by decide) ?_
      exact blk66 _ _ τ x1 x2 x3 x4 y0 x2 y0 x1 (0 : Int32) ls hP hS (lv_sub hl [1, 2, 3, 4, 5, 0] rfl) hf
    · rw [if_pos hc8] at hf
      refine lv_iconst (v := (1 : Int32)) hx hb dX4_turnOverParent_61 (by decide) ?_
      refine lv_goto (tgt := 66) hx hb dX4_turnOverParent_62 (by decide) ?_
      exact blk66 _ _ τ x1 x2 x3 x4 y0 x2 y0 x1 (1 : Int32) ls hP hS (lv_sub hl [1, 2, 3, 4, 5, 0] rfl) hf
  have blk32 : ∀ (H : Heap) (locs : List Loc) (τ : Tau) (x1 : Int32) (x2 : Int32) (x3 : Int32) (y0 : Int32) (ls : Array Slot), va_P D vwCl (cw cI cT cM ad (u3 σ i τ)) H → va_S (gA 167 ad) s.heap H locs → lv_has ls 6 [(0, .ref (ad (10 * i + 1))), (1, .int x1), (2, .int x2), (3, .int x3)] → fX4_turnOverParent_32 F τ x1 x2 x3 y0 = some res → W p l e rX4_turnOverParent s m args below meth c H locs 0 0 Q (F0 m 32 ls [.int y0]) := by
    intro H locs τ x1 x2 x3 y0 ls hP hS hl hf
    unfold fX4_turnOverParent_32 at hf
    refine lv_istore (lv' := [(4, .int y0), (0, .ref (ad (10 * i + 1))), (1, .int x1), (2, .int x2), (3, .int x3)]) hx hb dX4_turnOverParent_32 hl (by decide) rfl (fun ls hl => ?_)
    refine lv_aload_n hx hb dX4_turnOverParent_34 rfl (lv_at hl 1 rfl) ?_
    refine lv_iload_n hx hb dX4_turnOverParent_35 rfl (lv_at hl 3 rfl) ?_
    obtain ⟨q6, hq6, hf⟩ := obE hf
    refine ct_cVi (rest := []) (tX4_leftOf hD hi hq6) hx hb hml hown ht hX hP hS wX4_leftOf kML_RX4_53 rfl rfl ⟨Nat.le_of_ble_eq_true rfl, Nat.le_of_ble_eq_true rfl⟩ (va_recv hX.1 hP rfl (ct_nodes hi)) rfl hl.1 rfl (Nat.le_of_ble_eq_true rfl) dX4_turnOverParent_36 (fun H locs hP hS => ?_)
    refine lv_iload_n hx hb dX4_turnOverParent_39 rfl (lv_at hl 2 rfl) ?_
    refine lv_icmp_ne (tgt := 47) hx hb dX4_turnOverParent_40 (by decide) (fun hc7 => ?_) (fun hc7 => ?_)
    · rw [if_neg hc7] at hf
      refine lv_iconst (v := (0 : Int32)) hx hb dX4_turnOverParent_47 (by decide) ?_
      exact blk48 _ _ τ x1 x2 x3 y0 (0 : Int32) ls hP hS (lv_sub hl [1, 2, 3, 4, 0] rfl) hf
    · rw [if_pos hc7] at hf
      refine lv_iconst (v := (1 : Int32)) hx hb dX4_turnOverParent_43 (by decide) ?_
      refine lv_goto (tgt := 48) hx hb dX4_turnOverParent_44 (by decide) ?_
      exact blk48 _ _ τ x1 x2 x3 y0 (1 : Int32) ls hP hS (lv_sub hl [1, 2, 3, 4, 0] rfl) hf
  unfold fX4_turnOverParent at hf
  refine lv_aload_n hx hb dX4_turnOverParent_0 rfl (lv_at hl 0 rfl) ?_
  refine lv_iload_n hx hb dX4_turnOverParent_1 rfl (lv_at hl 1 rfl) ?_
  obtain ⟨q1, hq1, hf⟩ := obE hf
  refine ct_cVi (rest := []) (tX4_parentOf hD hi hq1) hx hb hml hown ht hX hP hS wX4_parentOf kML_RX4_77 rfl rfl ⟨Nat.le_of_ble_eq_true rfl, Nat.le_of_ble_eq_true rfl⟩ (va_recv hX.1 hP rfl (ct_nodes hi)) rfl hl.1 rfl (Nat.le_of_ble_eq_true rfl) dX4_turnOverParent_2 (fun H locs hP hS => ?_)
  refine lv_istore_n (lv' := [(2, .int q1), (0, .ref (ad (10 * i + 1))), (1, .int x1)]) hx hb dX4_turnOverParent_5 rfl hl (by decide) rfl (fun ls hl => ?_)
  refine lv_iload_n hx hb dX4_turnOverParent_6 rfl (lv_at hl 0 rfl) ?_
  refine lv_iconst (v := (-1 : Int32)) hx hb dX4_turnOverParent_7 (by decide) ?_
  refine lv_icmp_ne (tgt := 12) hx hb dX4_turnOverParent_8 (by decide) (fun hc2 => ?_) (fun hc2 => ?_)
  · rw [if_neg hc2] at hf
    refine lv_aload_n hx hb dX4_turnOverParent_12 rfl (lv_at hl 1 rfl) ?_
    refine lv_iload_n hx hb dX4_turnOverParent_13 rfl (lv_at hl 0 rfl) ?_
    obtain ⟨q3, hq3, hf⟩ := obE hf
    refine ct_cVi (rest := []) (tX4_parentOf hD hi hq3) hx hb hml hown ht hX hP hS wX4_parentOf kML_RX4_77 rfl rfl ⟨Nat.le_of_ble_eq_true rfl, Nat.le_of_ble_eq_true rfl⟩ (va_recv hX.1 hP rfl (ct_nodes hi)) rfl hl.1 rfl (Nat.le_of_ble_eq_true rfl) dX4_turnOverParent_14 (fun H locs hP hS => ?_)
    refine lv_istore_n (lv' := [(3, .int q3), (2, .int q1), (0, .ref (ad (10 * i + 1))), (1, .int x1)]) hx hb dX4_turnOverParent_17 rfl hl (by decide) rfl (fun ls hl => ?_)
    refine lv_aload_n hx hb dX4_turnOverParent_18 rfl (lv_at hl 2 rfl) ?_
    refine lv_iload_n hx hb dX4_turnOverParent_19 rfl (lv_at hl 0 rfl) ?_
    obtain ⟨q4, hq4, hf⟩ := obE hf
    refine ct_cVi (rest := []) (tX4_leftOf hD hi hq4) hx hb hml hown ht hX hP hS wX4_leftOf kML_RX4_53 rfl rfl ⟨Nat.le_of_ble_eq_true rfl, Nat.le_of_ble_eq_true rfl⟩ (va_recv hX.1 hP rfl (ct_nodes hi)) rfl hl.1 rfl (Nat.le_of_ble_eq_true rfl) dX4_turnOverParent_20 (fun H locs hP hS => ?_)
    refine lv_iload_n hx hb dX4_turnOverParent_23 rfl (lv_at hl 1 rfl) ?_
    refine lv_icmp_ne (tgt := 31) hx hb dX4_turnOverParent_24 (by decide) (fun hc5 => ?_) (fun hc5 => ?_)
    · rw [if_neg hc5] at hf
      refine lv_iconst (v := (0 : Int32)) hx hb dX4_turnOverParent_31 (by decide) ?_
      exact blk32 _ _ τ x1 q1 q3 (0 : Int32) ls hP hS (lv_sub hl [2, 3, 1, 0] rfl) hf
    · rw [if_pos hc5] at hf
      refine lv_iconst (v := (1 : Int32)) hx hb dX4_turnOverParent_27 (by decide) ?_
      refine lv_goto (tgt := 32) hx hb dX4_turnOverParent_28 (by decide) ?_
      exact blk32 _ _ τ x1 q1 q3 (1 : Int32) ls hP hS (lv_sub hl [2, 3, 1, 0] rfl) hf
  · rw [if_pos hc2] at hf
    have e0 := Option.some.inj hf
    subst e0
    exact hret _ _ _ _ hP hS dX4_turnOverParent_11
def fX4_slotOfKey_7 (F : Nat) (τ : Tau) : Nat → Int32 → Int32 → Int32 → Option (Int32)
  | 0, _, _, _ => none
  | n + 1, x1, x2, x3 => if (60 : Int32) ≤ x3 then (some (-1 : Int32)) else (if x2 = (-1 : Int32) then (some (-1 : Int32)) else ((fX4_keyOf F τ x2).bind fun q3 => (if q3 = x1 then (some x2) else ((fX4_keyOf F τ x2).bind fun q5 => (if q5 ≤ x1 then ((fX4_childOf F τ x2 (0 : Int32)).bind fun q7 => (fX4_slotOfKey_7 F τ n x1 q7 (x3 + (1 : Int32)))) else ((fX4_childOf F τ x2 (1 : Int32)).bind fun q8 => (fX4_slotOfKey_7 F τ n x1 q8 (x3 + (1 : Int32)))))))))
def fX4_slotOfKey (F : Nat) (τ : Tau) (x1 : Int32) : Option (Int32) := fX4_slotOfKey_7 F τ F x1 (τ 6 0) (0 : Int32)
abbrev rX4_slotOfKey : Room := { frames := 1, cells := 0, slots := 0, locals := 22 }
theorem wX4_slotOfKey : kV yX4_slotOfKey cX4_slotOfKey 4 (some .int) 1 := ⟨kCO_yX4_slotOfKey, kIM_yX4_slotOfKey, kSE_yX4_slotOfKey, kIN_RX4, by decide +kernel, by decide +kernel, by decide +kernel⟩
set_option maxHeartbeats 4000000 in
set_option maxRecDepth 100000 in
theorem tX4_slotOfKey {l : Launch} {D : va_G} {cI cT cM : ClassId} {ad : Nat → Nat} (hD : gInj 167 ad) {F : Nat} {σ : Sig} {i : Nat} (hi : i < 16) {τ : Tau} {x1 : Int32} {res : Int32} (hf : fX4_slotOfKey F τ x1 = some res) : CTi l yX4_slotOfKey cX4_slotOfKey 4 .int rX4_slotOfKey D (cTy cI cT cM) (gA 167 ad) [.ref (ad (10 * i + 1)), .int x1] (cw cI cT cM ad (u3 σ i τ)) res (cw cI cT cM ad (u3 σ i τ)) := by
  refine ct_int (by decide) (Nat.le_of_ble_eq_true rfl) ?_
  intro p e s m args below meth c Q ls hx hb hml hown ht hX hret hP hS hl
  have hl : lv_has ls 4 [(0, .ref (ad (10 * i + 1))), (1, .int x1)] := hl
  have blk7 : ∀ (n7 : Nat) (H : Heap) (locs : List Loc) (x1 : Int32) (x2 : Int32) (x3 : Int32) (ls : Array Slot), va_P D vwCl (cw cI cT cM ad (u3 σ i τ)) H → va_S (gA 167 ad) s.heap H locs → lv_has ls 4 [(0, .ref (ad (10 * i + 1))), (1, .int x1), (2, .int x2), (3, .int x3)] → fX4_slotOfKey_7 F τ n7 x1 x2 x3 = some res → W p l e rX4_slotOfKey s m args below meth c H locs 0 0 Q (F0 m 7 ls []) := by
    intro n7
    induction n7 with
    | zero =>
      intro H locs x1 x2 x3 ls hP hS hl hf
      rw [fX4_slotOfKey_7] at hf
      cases hf
    | succ n7 ih7 =>
      skip
      intro H locs x1 x2 x3 ls hP hS hl hf
      rw [fX4_slotOfKey_7] at hf
      refine lv_iload_n hx hb dX4_slotOfKey_7 rfl (lv_at hl 3 rfl) ?_
      refine lv_bipush (v := (60 : Int32)) hx hb dX4_slotOfKey_8 (by decide) ?_
      refine lv_icmp_ge (tgt := 55) hx hb dX4_slotOfKey_10 (by decide) (fun hc1 => ?_) (fun hc1 => ?_)
      · rw [if_pos hc1] at hf
        refine lv_iconst (v := (-1 : Int32)) hx hb dX4_slotOfKey_55 (by decide) ?_
        have e0 := Option.some.inj hf
        subst e0
        exact hret _ _ _ _ hP hS dX4_slotOfKey_56
      · rw [if_neg hc1] at hf
        refine lv_iload_n hx hb dX4_slotOfKey_13 rfl (lv_at hl 2 rfl) ?_
        refine lv_iconst (v := (-1 : Int32)) hx hb dX4_slotOfKey_14 (by decide) ?_
        refine lv_icmp_eq (tgt := 55) hx hb dX4_slotOfKey_15 (by decide) (fun hc2 => ?_) (fun hc2 => ?_)
        · rw [if_pos hc2] at hf
          refine lv_iconst (v := (-1 : Int32)) hx hb dX4_slotOfKey_55 (by decide) ?_
          have e0 := Option.some.inj hf
          subst e0
          exact hret _ _ _ _ hP hS dX4_slotOfKey_56
        · rw [if_neg hc2] at hf
          refine lv_aload_n hx hb dX4_slotOfKey_18 rfl (lv_at hl 0 rfl) ?_
          refine lv_iload_n hx hb dX4_slotOfKey_19 rfl (lv_at hl 2 rfl) ?_
          obtain ⟨q3, hq3, hf⟩ := obE hf
          refine ct_cVi (rest := []) (tX4_keyOf hD hi hq3) hx hb hml hown ht hX hP hS wX4_keyOf kML_RX4_59 rfl rfl ⟨Nat.le_of_ble_eq_true rfl, Nat.le_of_ble_eq_true rfl⟩ (va_recv hX.1 hP rfl (ct_nodes hi)) rfl hl.1 rfl (Nat.le_of_ble_eq_true rfl) dX4_slotOfKey_20 (fun H locs hP hS => ?_)
          refine lv_iload_n hx hb dX4_slotOfKey_23 rfl (lv_at hl 1 rfl) ?_
          refine lv_icmp_ne (tgt := 29) hx hb dX4_slotOfKey_24 (by decide) (fun hc4 => ?_) (fun hc4 => ?_)
          · rw [if_neg hc4] at hf
            refine lv_aload_n hx hb dX4_slotOfKey_29 rfl (lv_at hl 0 rfl) ?_
            refine lv_iload_n hx hb dX4_slotOfKey_30 rfl (lv_at hl 2 rfl) ?_
            refine lv_iload_n hx hb dX4_slotOfKey_31 rfl (lv_at hl 1 rfl) ?_
            refine lv_aload_n hx hb dX4_slotOfKey_32 rfl (lv_at hl 0 rfl) ?_
            refine lv_iload_n hx hb dX4_slotOfKey_33 rfl (lv_at hl 2 rfl) ?_
            obtain ⟨q5, hq5, hf⟩ := obE hf
            refine ct_cVi (rest := [.int x1, .int x2, .ref (ad (10 * i + 1))]) (tX4_keyOf hD hi hq5) hx hb hml hown ht hX hP hS wX4_keyOf kML_RX4_59 rfl rfl ⟨Nat.le_of_ble_eq_true rfl, Nat.le_of_ble_eq_true rfl⟩ (va_recv hX.1 hP rfl (ct_nodes hi)) rfl hl.1 rfl (Nat.le_of_ble_eq_true rfl) dX4_slotOfKey_34 (fun H locs hP hS => ?_)
            refine lv_icmp_ge (tgt := 44) hx hb dX4_slotOfKey_37 (by decide) (fun hc6 => ?_) (fun hc6 => ?_)
            · rw [if_pos hc6] at hf
              refine lv_iconst (v := (0 : Int32)) hx hb dX4_slotOfKey_44 (by decide) ?_
              obtain ⟨q7, hq7, hf⟩ := obE hf
              refine ct_cVi (rest := []) (tX4_childOf hD hi hq7) hx hb hml hown ht hX hP hS wX4_childOf kML_RX4_62 rfl rfl ⟨Nat.le_of_ble_eq_true rfl, Nat.le_of_ble_eq_true rfl⟩ (va_recv hX.1 hP rfl (ct_nodes hi)) rfl hl.1 rfl (Nat.le_of_ble_eq_true rfl) dX4_slotOfKey_45 (fun H locs hP hS => ?_)
              refine lv_istore_n (lv' := [(2, .int q7), (0, .ref (ad (10 * i + 1))), (1, .int x1), (3, .int x3)]) hx hb dX4_slotOfKey_48 rfl hl (by decide) rfl (fun ls hl => ?_)
              refine lv_iinc (v := x3 + (1 : Int32)) (lv' := [(3, .int (x3 + (1 : Int32))), (2, .int q7), (0, .ref (ad (10 * i + 1))), (1, .int x1)]) hx hb dX4_slotOfKey_49 hl (k := 3) rfl rfl (by decide) rfl (fun ls hl => ?_)
              refine lv_goto (tgt := 7) hx hb dX4_slotOfKey_52 (by decide) ?_
              exact ih7 _ _ x1 q7 (x3 + (1 : Int32)) ls hP hS (lv_sub hl [2, 3, 1, 0] rfl) hf
            · rw [if_neg hc6] at hf
              refine lv_iconst (v := (1 : Int32)) hx hb dX4_slotOfKey_40 (by decide) ?_
              refine lv_goto (tgt := 45) hx hb dX4_slotOfKey_41 (by decide) ?_
              obtain ⟨q8, hq8, hf⟩ := obE hf
              refine ct_cVi (rest := []) (tX4_childOf hD hi hq8) hx hb hml hown ht hX hP hS wX4_childOf kML_RX4_62 rfl rfl ⟨Nat.le_of_ble_eq_true rfl, Nat.le_of_ble_eq_true rfl⟩ (va_recv hX.1 hP rfl (ct_nodes hi)) rfl hl.1 rfl (Nat.le_of_ble_eq_true rfl) dX4_slotOfKey_45 (fun H locs hP hS => ?_)
              refine lv_istore_n (lv' := [(2, .int q8), (0, .ref (ad (10 * i + 1))), (1, .int x1), (3, .int x3)]) hx hb dX4_slotOfKey_48 rfl hl (by decide) rfl (fun ls hl => ?_)
              refine lv_iinc (v := x3 + (1 : Int32)) (lv' := [(3, .int (x3 + (1 : Int32))), (2, .int q8), (0, .ref (ad (10 * i + 1))), (1, .int x1)]) hx hb dX4_slotOfKey_49 hl (k := 3) rfl rfl (by decide) rfl (fun ls hl => ?_)
              refine lv_goto (tgt := 7) hx hb dX4_slotOfKey_52 (by decide) ?_
              exact ih7 _ _ x1 q8 (x3 + (1 : Int32)) ls hP hS (lv_sub hl [2, 3, 1, 0] rfl) hf
          · rw [if_pos hc4] at hf
            refine lv_iload_n hx hb dX4_slotOfKey_27 rfl (lv_at hl 2 rfl) ?_
            have e0 := Option.some.inj hf
            subst e0
            exact hret _ _ _ _ hP hS dX4_slotOfKey_28
  unfold fX4_slotOfKey at hf
  refine lv_aload_n hx hb dX4_slotOfKey_0 rfl (lv_at hl 0 rfl) ?_
  refine va_get (ci := 3) (v := .int (τ 6 0)) hx hb ht i_X4 hown hX.1 hP (10 * i + 1) (ct_nodes hi) rfl 6 (by decide) (ht _ kFL_RX4_30) (fun _ h9 => h9) rfl dX4_slotOfKey_1 ?_
  refine lv_istore_n (lv' := [(2, .int (τ 6 0)), (0, .ref (ad (10 * i + 1))), (1, .int x1)]) hx hb dX4_slotOfKey_4 rfl hl (by decide) rfl (fun ls hl => ?_)
  refine lv_iconst (v := (0 : Int32)) hx hb dX4_slotOfKey_5 (by decide) ?_
  refine lv_istore_n (lv' := [(3, .int ((0 : Int32))), (2, .int (τ 6 0)), (0, .ref (ad (10 * i + 1))), (1, .int x1)]) hx hb dX4_slotOfKey_6 rfl hl (by decide) rfl (fun ls hl => ?_)
  exact blk7 F _ _ x1 (τ 6 0) (0 : Int32) ls hP hS (lv_sub hl [2, 3, 1, 0] rfl) hf
def fX4_endOf_5 (F : Nat) (τ : Tau) : Nat → Int32 → Int32 → Int32 → Option (Int32)
  | 0, _, _, _ => none
  | n + 1, x2, x3, x4 => if (60 : Int32) ≤ x4 then (some x3) else ((fX4_childOf F τ x3 x2).bind fun q2 => (if q2 = (-1 : Int32) then (some x3) else ((fX4_childOf F τ x3 x2).bind fun q4 => (fX4_endOf_5 F τ n x2 q4 (x4 + (1 : Int32))))))
def fX4_endOf (F : Nat) (τ : Tau) (x1 : Int32) (x2 : Int32) : Option (Int32) := fX4_endOf_5 F τ F x2 x1 (0 : Int32)
abbrev rX4_endOf : Room := { frames := 1, cells := 0, slots := 0, locals := 22 }
theorem wX4_endOf : kV yX4_endOf cX4_endOf 5 (some .int) 2 := ⟨kCO_yX4_endOf, kIM_yX4_endOf, kSE_yX4_endOf, kIN_RX4, by decide +kernel, by decide +kernel, by decide +kernel⟩
set_option maxHeartbeats 4000000 in
set_option maxRecDepth 100000 in
theorem tX4_endOf {l : Launch} {D : va_G} {cI cT cM : ClassId} {ad : Nat → Nat} (hD : gInj 167 ad) {F : Nat} {σ : Sig} {i : Nat} (hi : i < 16) {τ : Tau} {x1 : Int32} {x2 : Int32} {res : Int32} (hf : fX4_endOf F τ x1 x2 = some res) : CTi l yX4_endOf cX4_endOf 5 .int rX4_endOf D (cTy cI cT cM) (gA 167 ad) [.ref (ad (10 * i + 1)), .int x1, .int x2] (cw cI cT cM ad (u3 σ i τ)) res (cw cI cT cM ad (u3 σ i τ)) := by
  refine ct_int (by decide) (Nat.le_of_ble_eq_true rfl) ?_
  intro p e s m args below meth c Q ls hx hb hml hown ht hX hret hP hS hl
  have hl : lv_has ls 5 [(0, .ref (ad (10 * i + 1))), (1, .int x1), (2, .int x2)] := hl
  have blk5 : ∀ (n5 : Nat) (H : Heap) (locs : List Loc) (x2 : Int32) (x3 : Int32) (x4 : Int32) (ls : Array Slot), va_P D vwCl (cw cI cT cM ad (u3 σ i τ)) H → va_S (gA 167 ad) s.heap H locs → lv_has ls 5 [(0, .ref (ad (10 * i + 1))), (2, .int x2), (3, .int x3), (4, .int x4)] → fX4_endOf_5 F τ n5 x2 x3 x4 = some res → W p l e rX4_endOf s m args below meth c H locs 0 0 Q (F0 m 5 ls []) := by
    intro n5
    induction n5 with
    | zero =>
      intro H locs x2 x3 x4 ls hP hS hl hf
      rw [fX4_endOf_5] at hf
      cases hf
    | succ n5 ih5 =>
      skip
      intro H locs x2 x3 x4 ls hP hS hl hf
      rw [fX4_endOf_5] at hf
      refine lv_iload hx hb dX4_endOf_5 (lv_at hl 3 rfl) ?_
      refine lv_bipush (v := (60 : Int32)) hx hb dX4_endOf_7 (by decide) ?_
      refine lv_icmp_ge (tgt := 35) hx hb dX4_endOf_9 (by decide) (fun hc1 => ?_) (fun hc1 => ?_)
      · rw [if_pos hc1] at hf
        refine lv_iload_n hx hb dX4_endOf_35 rfl (lv_at hl 2 rfl) ?_
        have e0 := Option.some.inj hf
        subst e0
        exact hret _ _ _ _ hP hS dX4_endOf_36
      · rw [if_neg hc1] at hf
        refine lv_aload_n hx hb dX4_endOf_12 rfl (lv_at hl 0 rfl) ?_
        refine lv_iload_n hx hb dX4_endOf_13 rfl (lv_at hl 2 rfl) ?_
        refine lv_iload_n hx hb dX4_endOf_14 rfl (lv_at hl 1 rfl) ?_
        obtain ⟨q2, hq2, hf⟩ := obE hf
        refine ct_cVi (rest := []) (tX4_childOf hD hi hq2) hx hb hml hown ht hX hP hS wX4_childOf kML_RX4_62 rfl rfl ⟨Nat.le_of_ble_eq_true rfl, Nat.le_of_ble_eq_true rfl⟩ (va_recv hX.1 hP rfl (ct_nodes hi)) rfl hl.1 rfl (Nat.le_of_ble_eq_true rfl) dX4_endOf_15 (fun H locs hP hS => ?_)
        refine lv_iconst (v := (-1 : Int32)) hx hb dX4_endOf_18 (by decide) ?_
        refine lv_icmp_eq (tgt := 35) hx hb dX4_endOf_19 (by decide) (fun hc3 => ?_) (fun hc3 => ?_)
        · rw [if_pos hc3] at hf
          refine lv_iload_n hx hb dX4_endOf_35 rfl (lv_at hl 2 rfl) ?_
          have e0 := Option.some.inj hf
          subst e0
          exact hret _ _ _ _ hP hS dX4_endOf_36
        · rw [if_neg hc3] at hf
          refine lv_aload_n hx hb dX4_endOf_22 rfl (lv_at hl 0 rfl) ?_
          refine lv_iload_n hx hb dX4_endOf_23 rfl (lv_at hl 2 rfl) ?_
          refine lv_iload_n hx hb dX4_endOf_24 rfl (lv_at hl 1 rfl) ?_
          obtain ⟨q4, hq4, hf⟩ := obE hf
          refine ct_cVi (rest := []) (tX4_childOf hD hi hq4) hx hb hml hown ht hX hP hS wX4_childOf kML_RX4_62 rfl rfl ⟨Nat.le_of_ble_eq_true rfl, Nat.le_of_ble_eq_true rfl⟩ (va_recv hX.1 hP rfl (ct_nodes hi)) rfl hl.1 rfl (Nat.le_of_ble_eq_true rfl) dX4_endOf_25 (fun H locs hP hS => ?_)
          refine lv_istore_n (lv' := [(3, .int q4), (0, .ref (ad (10 * i + 1))), (2, .int x2), (4, .int x4)]) hx hb dX4_endOf_28 rfl hl (by decide) rfl (fun ls hl => ?_)
          refine lv_iinc (v := x4 + (1 : Int32)) (lv' := [(4, .int (x4 + (1 : Int32))), (3, .int q4), (0, .ref (ad (10 * i + 1))), (2, .int x2)]) hx hb dX4_endOf_29 hl (k := 3) rfl rfl (by decide) rfl (fun ls hl => ?_)
          refine lv_goto (tgt := 5) hx hb dX4_endOf_32 (by decide) ?_
          exact ih5 _ _ x2 q4 (x4 + (1 : Int32)) ls hP hS (lv_sub hl [2, 3, 1, 0] rfl) hf
  unfold fX4_endOf at hf
  refine lv_iload_n hx hb dX4_endOf_0 rfl (lv_at hl 1 rfl) ?_
  refine lv_istore_n (lv' := [(3, .int x1), (0, .ref (ad (10 * i + 1))), (1, .int x1), (2, .int x2)]) hx hb dX4_endOf_1 rfl hl (by decide) rfl (fun ls hl => ?_)
  refine lv_iconst (v := (0 : Int32)) hx hb dX4_endOf_2 (by decide) ?_
  refine lv_istore (lv' := [(4, .int ((0 : Int32))), (3, .int x1), (0, .ref (ad (10 * i + 1))), (1, .int x1), (2, .int x2)]) hx hb dX4_endOf_3 hl (by decide) rfl (fun ls hl => ?_)
  exact blk5 F _ _ x2 x1 (0 : Int32) ls hP hS (lv_sub hl [2, 4, 1, 0] rfl) hf
def fX4_leastBelow (F : Nat) (τ : Tau) (x1 : Int32) : Option (Int32) := (fX4_endOf F τ x1 (1 : Int32)).bind fun q1 => (some q1)
abbrev rX4_leastBelow : Room := { frames := 2, cells := 0, slots := 0, locals := 46 }
theorem wX4_leastBelow : kV yX4_leastBelow cX4_leastBelow 2 (some .int) 1 := ⟨kCO_yX4_leastBelow, kIM_yX4_leastBelow, kSE_yX4_leastBelow, kIN_RX4, by decide +kernel, by decide +kernel, by decide +kernel⟩
set_option maxHeartbeats 4000000 in
set_option maxRecDepth 100000 in
theorem tX4_leastBelow {l : Launch} {D : va_G} {cI cT cM : ClassId} {ad : Nat → Nat} (hD : gInj 167 ad) {F : Nat} {σ : Sig} {i : Nat} (hi : i < 16) {τ : Tau} {x1 : Int32} {res : Int32} (hf : fX4_leastBelow F τ x1 = some res) : CTi l yX4_leastBelow cX4_leastBelow 2 .int rX4_leastBelow D (cTy cI cT cM) (gA 167 ad) [.ref (ad (10 * i + 1)), .int x1] (cw cI cT cM ad (u3 σ i τ)) res (cw cI cT cM ad (u3 σ i τ)) := by
  refine ct_int (by decide) (Nat.le_of_ble_eq_true rfl) ?_
  intro p e s m args below meth c Q ls hx hb hml hown ht hX hret hP hS hl
  have hl : lv_has ls 2 [(0, .ref (ad (10 * i + 1))), (1, .int x1)] := hl
  unfold fX4_leastBelow at hf
  refine lv_aload_n hx hb dX4_leastBelow_0 rfl (lv_at hl 0 rfl) ?_
  refine lv_iload_n hx hb dX4_leastBelow_1 rfl (lv_at hl 1 rfl) ?_
  refine lv_iconst (v := (1 : Int32)) hx hb dX4_leastBelow_2 (by decide) ?_
  obtain ⟨q1, hq1, hf⟩ := obE hf
  refine ct_cVi (rest := []) (tX4_endOf hD hi hq1) hx hb hml hown ht hX hP hS wX4_endOf kML_RX4_80 rfl rfl ⟨Nat.le_of_ble_eq_true rfl, Nat.le_of_ble_eq_true rfl⟩ (va_recv hX.1 hP rfl (ct_nodes hi)) rfl hl.1 rfl (Nat.le_of_ble_eq_true rfl) dX4_leastBelow_3 (fun H locs hP hS => ?_)
  have e0 := Option.some.inj hf
  subst e0
  exact hret _ _ _ _ hP hS dX4_leastBelow_6
def fX4_greatestBelow (F : Nat) (τ : Tau) (x1 : Int32) : Option (Int32) := (fX4_endOf F τ x1 (0 : Int32)).bind fun q1 => (some q1)
abbrev rX4_greatestBelow : Room := { frames := 2, cells := 0, slots := 0, locals := 46 }
theorem wX4_greatestBelow : kV yX4_greatestBelow cX4_greatestBelow 2 (some .int) 1 := ⟨kCO_yX4_greatestBelow, kIM_yX4_greatestBelow, kSE_yX4_greatestBelow, kIN_RX4, by decide +kernel, by decide +kernel, by decide +kernel⟩
set_option maxHeartbeats 4000000 in
set_option maxRecDepth 100000 in
theorem tX4_greatestBelow {l : Launch} {D : va_G} {cI cT cM : ClassId} {ad : Nat → Nat} (hD : gInj 167 ad) {F : Nat} {σ : Sig} {i : Nat} (hi : i < 16) {τ : Tau} {x1 : Int32} {res : Int32} (hf : fX4_greatestBelow F τ x1 = some res) : CTi l yX4_greatestBelow cX4_greatestBelow 2 .int rX4_greatestBelow D (cTy cI cT cM) (gA 167 ad) [.ref (ad (10 * i + 1)), .int x1] (cw cI cT cM ad (u3 σ i τ)) res (cw cI cT cM ad (u3 σ i τ)) := by
  refine ct_int (by decide) (Nat.le_of_ble_eq_true rfl) ?_
  intro p e s m args below meth c Q ls hx hb hml hown ht hX hret hP hS hl
  have hl : lv_has ls 2 [(0, .ref (ad (10 * i + 1))), (1, .int x1)] := hl
  unfold fX4_greatestBelow at hf
  refine lv_aload_n hx hb dX4_greatestBelow_0 rfl (lv_at hl 0 rfl) ?_
  refine lv_iload_n hx hb dX4_greatestBelow_1 rfl (lv_at hl 1 rfl) ?_
  refine lv_iconst (v := (0 : Int32)) hx hb dX4_greatestBelow_2 (by decide) ?_
  obtain ⟨q1, hq1, hf⟩ := obE hf
  refine ct_cVi (rest := []) (tX4_endOf hD hi hq1) hx hb hml hown ht hX hP hS wX4_endOf kML_RX4_80 rfl rfl ⟨Nat.le_of_ble_eq_true rfl, Nat.le_of_ble_eq_true rfl⟩ (va_recv hX.1 hP rfl (ct_nodes hi)) rfl hl.1 rfl (Nat.le_of_ble_eq_true rfl) dX4_greatestBelow_3 (fun H locs hP hS => ?_)
  have e0 := Option.some.inj hf
  subst e0
  exact hret _ _ _ _ hP hS dX4_greatestBelow_6
def fX4_nextRising_30 (F : Nat) (τ : Tau) : Nat → Int32 → Int32 → Int32 → Option (Int32)
  | 0, _, _, _ => none
  | n + 1, x2, x3, x4 => if (60 : Int32) ≤ x4 then (some x3) else (if x3 = (-1 : Int32) then (some x3) else ((fX4_leftOf F τ x3).bind fun q8 => (if q8 = x2 then (some x3) else ((fX4_parentOf F τ x3).bind fun q10 => (fX4_nextRising_30 F τ n x3 q10 (x4 + (1 : Int32)))))))
def fX4_nextRising (F : Nat) (τ : Tau) (x1 : Int32) : Option (Int32) := (fX4_rightOf F τ x1).bind fun q1 => (if q1 = (-1 : Int32) then ((fX4_parentOf F τ x1).bind fun q3 => (fX4_nextRising_30 F τ F x1 q3 (0 : Int32))) else ((fX4_rightOf F τ x1).bind fun q4 => ((fX4_leastBelow F τ q4).bind fun q5 => (some q5))))
abbrev rX4_nextRising : Room := { frames := 3, cells := 0, slots := 0, locals := 67 }
theorem wX4_nextRising : kV yX4_nextRising cX4_nextRising 5 (some .int) 1 := ⟨kCO_yX4_nextRising, kIM_yX4_nextRising, kSE_yX4_nextRising, kIN_RX4, by decide +kernel, by decide +kernel, by decide +kernel⟩
set_option maxHeartbeats 4000000 in
set_option maxRecDepth 100000 in
theorem tX4_nextRising {l : Launch} {D : va_G} {cI cT cM : ClassId} {ad : Nat → Nat} (hD : gInj 167 ad) {F : Nat} {σ : Sig} {i : Nat} (hi : i < 16) {τ : Tau} {x1 : Int32} {res : Int32} (hf : fX4_nextRising F τ x1 = some res) : CTi l yX4_nextRising cX4_nextRising 5 .int rX4_nextRising D (cTy cI cT cM) (gA 167 ad) [.ref (ad (10 * i + 1)), .int x1] (cw cI cT cM ad (u3 σ i τ)) res (cw cI cT cM ad (u3 σ i τ)) := by
  refine ct_int (by decide) (Nat.le_of_ble_eq_true rfl) ?_
  intro p e s m args below meth c Q ls hx hb hml hown ht hX hret hP hS hl
  have hl : lv_has ls 5 [(0, .ref (ad (10 * i + 1))), (1, .int x1)] := hl
  have blk30 : ∀ (n30 : Nat) (H : Heap) (locs : List Loc) (x2 : Int32) (x3 : Int32) (x4 : Int32) (ls : Array Slot), va_P D vwCl (cw cI cT cM ad (u3 σ i τ)) H → va_S (gA 167 ad) s.heap H locs → lv_has ls 5 [(0, .ref (ad (10 * i + 1))), (2, .int x2), (3, .int x3), (4, .int x4)] → fX4_nextRising_30 F τ n30 x2 x3 x4 = some res → W p l e rX4_nextRising s m args below meth c H locs 0 0 Q (F0 m 30 ls []) := by
    intro n30
    induction n30 with
    | zero =>
      intro H locs x2 x3 x4 ls hP hS hl hf
      rw [fX4_nextRising_30] at hf
      cases hf
    | succ n30 ih30 =>
      skip
      intro H locs x2 x3 x4 ls hP hS hl hf
      rw [fX4_nextRising_30] at hf
      refine lv_iload hx hb dX4_nextRising_30 (lv_at hl 3 rfl) ?_
      refine lv_bipush (v := (60 : Int32)) hx hb dX4_nextRising_32 (by decide) ?_
      refine lv_icmp_ge (tgt := 65) hx hb dX4_nextRising_34 (by decide) (fun hc6 => ?_) (fun hc6 => ?_)
      · rw [if_pos hc6] at hf
        refine lv_iload_n hx hb dX4_nextRising_65 rfl (lv_at hl 2 rfl) ?_
        have e0 := Option.some.inj hf
        subst e0
        exact hret _ _ _ _ hP hS dX4_nextRising_66
      · rw [if_neg hc6] at hf
        refine lv_iload_n hx hb dX4_nextRising_37 rfl (lv_at hl 2 rfl) ?_
        refine lv_iconst (v := (-1 : Int32)) hx hb dX4_nextRising_38 (by decide) ?_
        refine lv_icmp_eq (tgt := 65) hx hb dX4_nextRising_39 (by decide) (fun hc7 => ?_) (fun hc7 => ?_)
        · rw [if_pos hc7] at hf
          refine lv_iload_n hx hb dX4_nextRising_65 rfl (lv_at hl 2 rfl) ?_
          have e0 := Option.some.inj hf
          subst e0
          exact hret _ _ _ _ hP hS dX4_nextRising_66
        · rw [if_neg hc7] at hf
          refine lv_aload_n hx hb dX4_nextRising_42 rfl (lv_at hl 0 rfl) ?_
          refine lv_iload_n hx hb dX4_nextRising_43 rfl (lv_at hl 2 rfl) ?_
          obtain ⟨q8, hq8, hf⟩ := obE hf
          refine ct_cVi (rest := []) (tX4_leftOf hD hi hq8) hx hb hml hown ht hX hP hS wX4_leftOf kML_RX4_53 rfl rfl ⟨Nat.le_of_ble_eq_true rfl, Nat.le_of_ble_eq_true rfl⟩ (va_recv hX.1 hP rfl (ct_nodes hi)) rfl hl.1 rfl (Nat.le_of_ble_eq_true rfl) dX4_nextRising_44 (fun H locs hP hS => ?_)
          refine lv_iload_n hx hb dX4_nextRising_47 rfl (lv_at hl 1 rfl) ?_
          refine lv_icmp_eq (tgt := 65) hx hb dX4_nextRising_48 (by decide) (fun hc9 => ?_) (fun hc9 => ?_)
          · rw [if_pos hc9] at hf
            refine lv_iload_n hx hb dX4_nextRising_65 rfl (lv_at hl 2 rfl) ?_
            have e0 := Option.some.inj hf
            subst e0
            exact hret _ _ _ _ hP hS dX4_nextRising_66
          · rw [if_neg hc9] at hf
            refine lv_iload_n hx hb dX4_nextRising_51 rfl (lv_at hl 2 rfl) ?_
            refine lv_istore_n (lv' := [(2, .int x3), (0, .ref (ad (10 * i + 1))), (3, .int x3), (4, .int x4)]) hx hb dX4_nextRising_52 rfl hl (by decide) rfl (fun ls hl => ?_)
            refine lv_aload_n hx hb dX4_nextRising_53 rfl (lv_at hl 1 rfl) ?_
            refine lv_iload_n hx hb dX4_nextRising_54 rfl (lv_at hl 0 rfl) ?_
            obtain ⟨q10, hq10, hf⟩ := obE hf
            refine ct_cVi (rest := []) (tX4_parentOf hD hi hq10) hx hb hml hown ht hX hP hS wX4_parentOf kML_RX4_77 rfl rfl ⟨Nat.le_of_ble_eq_true rfl, Nat.le_of_ble_eq_true rfl⟩ (va_recv hX.1 hP rfl (ct_nodes hi)) rfl hl.1 rfl (Nat.le_of_ble_eq_true rfl) dX4_nextRising_55 (fun H locs hP hS => ?_)
            refine lv_istore_n (lv' := [(3, .int q10), (2, .int x3), (0, .ref (ad (10 * i + 1))), (4, .int x4)]) hx hb dX4_nextRising_58 rfl hl (by decide) rfl (fun ls hl => ?_)
            refine lv_iinc (v := x4 + (1 : Int32)) (lv' := [(4, .int (x4 + (1 : Int32))), (3, .int q10), (2, .int x3), (0, .ref (ad (10 * i + 1)))]) hx hb dX4_nextRising_59 hl (k := 3) rfl rfl (by decide) rfl (fun ls hl => ?_)
            refine lv_goto (tgt := 30) hx hb dX4_nextRising_62 (by decide) ?_
            exact ih30 _ _ x3 q10 (x4 + (1 : Int32)) ls hP hS (lv_sub hl [3, 2, 1, 0] rfl) hf
  unfold fX4_nextRising at hf
  refine lv_aload_n hx hb dX4_nextRising_0 rfl (lv_at hl 0 rfl) ?_
  refine lv_iload_n hx hb dX4_nextRising_1 rfl (lv_at hl 1 rfl) ?_
  obtain ⟨q1, hq1, hf⟩ := obE hf
  refine ct_cVi (rest := []) (tX4_rightOf hD hi hq1) hx hb hml hown ht hX hP hS wX4_rightOf kML_RX4_56 rfl rfl ⟨Nat.le_of_ble_eq_true rfl, Nat.le_of_ble_eq_true rfl⟩ (va_recv hX.1 hP rfl (ct_nodes hi)) rfl hl.1 rfl (Nat.le_of_ble_eq_true rfl) dX4_nextRising_2 (fun H locs hP hS => ?_)
  refine lv_iconst (v := (-1 : Int32)) hx hb dX4_nextRising_5 (by decide) ?_
  refine lv_icmp_eq (tgt := 19) hx hb dX4_nextRising_6 (by decide) (fun hc2 => ?_) (fun hc2 => ?_)
  · rw [if_pos hc2] at hf
    refine lv_iload_n hx hb dX4_nextRising_19 rfl (lv_at hl 1 rfl) ?_
    refine lv_istore_n (lv' := [(2, .int x1), (0, .ref (ad (10 * i + 1))), (1, .int x1)]) hx hb dX4_nextRising_20 rfl hl (by decide) rfl (fun ls hl => ?_)
    refine lv_aload_n hx hb dX4_nextRising_21 rfl (lv_at hl 1 rfl) ?_
    refine lv_iload_n hx hb dX4_nextRising_22 rfl (lv_at hl 2 rfl) ?_
    obtain ⟨q3, hq3, hf⟩ := obE hf
    refine ct_cVi (rest := []) (tX4_parentOf hD hi hq3) hx hb hml hown ht hX hP hS wX4_parentOf kML_RX4_77 rfl rfl ⟨Nat.le_of_ble_eq_true rfl, Nat.le_of_ble_eq_true rfl⟩ (va_recv hX.1 hP rfl (ct_nodes hi)) rfl hl.1 rfl (Nat.le_of_ble_eq_true rfl) dX4_nextRising_23 (fun H locs hP hS => ?_)
    refine lv_istore_n (lv' := [(3, .int q3), (2, .int x1), (0, .ref (ad (10 * i + 1))), (1, .int x1)]) hx hb dX4_nextRising_26 rfl hl (by decide) rfl (fun ls hl => ?_)
    refine lv_iconst (v := (0 : Int32)) hx hb dX4_nextRising_27 (by decide) ?_
    refine lv_istore (lv' := [(4, .int ((0 : Int32))), (3, .int q3), (2, .int x1), (0, .ref (ad (10 * i + 1))), (1, .int x1)]) hx hb dX4_nextRising_28 hl (by decide) rfl (fun ls hl => ?_)
    exact blk30 F _ _ x1 q3 (0 : Int32) ls hP hS (lv_sub hl [3, 2, 1, 0] rfl) hf
  · rw [if_neg hc2] at hf
    refine lv_aload_n hx hb dX4_nextRising_9 rfl (lv_at hl 0 rfl) ?_
    refine lv_aload_n hx hb dX4_nextRising_10 rfl (lv_at hl 0 rfl) ?_
    refine lv_iload_n hx hb dX4_nextRising_11 rfl (lv_at hl 1 rfl) ?_
    obtain ⟨q4, hq4, hf⟩ := obE hf
    refine ct_cVi (rest := [.ref (ad (10 * i + 1))]) (tX4_rightOf hD hi hq4) hx hb hml hown ht hX hP hS wX4_rightOf kML_RX4_56 rfl rfl ⟨Nat.le_of_ble_eq_true rfl, Nat.le_of_ble_eq_true rfl⟩ (va_recv hX.1 hP rfl (ct_nodes hi)) rfl hl.1 rfl (Nat.le_of_ble_eq_true rfl) dX4_nextRising_12 (fun H locs hP hS => ?_)
    obtain ⟨q5, hq5, hf⟩ := obE hf
    refine ct_cVi (rest := []) (tX4_leastBelow hD hi hq5) hx hb hml hown ht hX hP hS wX4_leastBelow kML_RX4_83 rfl rfl ⟨Nat.le_of_ble_eq_true rfl, Nat.le_of_ble_eq_true rfl⟩ (va_recv hX.1 hP rfl (ct_nodes hi)) rfl hl.1 rfl (Nat.le_of_ble_eq_true rfl) dX4_nextRising_15 (fun H locs hP hS => ?_)
    have e0 := Option.some.inj hf
    subst e0
    exact hret _ _ _ _ hP hS dX4_nextRising_18
def fX4_nextByNumber_77 (F : Nat) (τ : Tau) (k41 : Int32 → Int32 → Int32 → Option (Int32)) (x3 : Int32) (x4 : Int32) : Option (Int32) := (fX4_parentOf F τ x3).bind fun q15 => (k41 x3 q15 (x4 + (1 : Int32)))
def fX4_nextByNumber_41 (F : Nat) (τ : Tau) : Nat → Int32 → Int32 → Int32 → Option (Int32)
  | 0, _, _, _ => none
  | n + 1, x2, x3, x4 => if (60 : Int32) ≤ x4 then (some (-1 : Int32)) else (if x3 = (-1 : Int32) then (some (-1 : Int32)) else ((fX4_leftOf F τ x3).bind fun q10 => (if q10 = x2 then ((fX4_rightOf F τ x3).bind fun q12 => (if q12 = (-1 : Int32) then (fX4_nextByNumber_77 F τ (fun x2 x3 x4 => fX4_nextByNumber_41 F τ n x2 x3 x4) x3 x4) else ((fX4_rightOf F τ x3).bind fun q14 => (some q14)))) else (fX4_nextByNumber_77 F τ (fun x2 x3 x4 => fX4_nextByNumber_41 F τ n x2 x3 x4) x3 x4))))
def fX4_nextByNumber (F : Nat) (τ : Tau) (x1 : Int32) : Option (Int32) := (fX4_leftOf F τ x1).bind fun q1 => (if q1 = (-1 : Int32) then ((fX4_rightOf F τ x1).bind fun q3 => (if q3 = (-1 : Int32) then ((fX4_parentOf F τ x1).bind fun q5 => (fX4_nextByNumber_41 F τ F x1 q5 (0 : Int32))) else ((fX4_rightOf F τ x1).bind fun q6 => (some q6)))) else ((fX4_leftOf F τ x1).bind fun q7 => (some q7)))
abbrev rX4_nextByNumber : Room := { frames := 1, cells := 0, slots := 0, locals := 21 }
theorem wX4_nextByNumber : kV yX4_nextByNumber cX4_nextByNumber 5 (some .int) 1 := ⟨kCO_yX4_nextByNumber, kIM_yX4_nextByNumber, kSE_yX4_nextByNumber, kIN_RX4, by decide +kernel, by decide +kernel, by decide +kernel⟩
set_option maxHeartbeats 4000000 in
set_option maxRecDepth 100000 in
theorem tX4_nextByNumber {l : Launch} {D : va_G} {cI cT cM : ClassId} {ad : Nat → Nat} (hD : gInj 167 ad) {F : Nat} {σ : Sig} {i : Nat} (hi : i < 16) {τ : Tau} {x1 : Int32} {res : Int32} (hf : fX4_nextByNumber F τ x1 = some res) : CTi l yX4_nextByNumber cX4_nextByNumber 5 .int rX4_nextByNumber D (cTy cI cT cM) (gA 167 ad) [.ref (ad (10 * i + 1)), .int x1] (cw cI cT cM ad (u3 σ i τ)) res (cw cI cT cM ad (u3 σ i τ)) := by
  refine ct_int (by decide) (Nat.le_of_ble_eq_true rfl) ?_
  intro p e s m args below meth c Q ls hx hb hml hown ht hX hret hP hS hl
  have hl : lv_has ls 5 [(0, .ref (ad (10 * i + 1))), (1, .int x1)] := hl
  have blk41 : ∀ (n41 : Nat) (H : Heap) (locs : List Loc) (x2 : Int32) (x3 : Int32) (x4 : Int32) (ls : Array Slot), va_P D vwCl (cw cI cT cM ad (u3 σ i τ)) H → va_S (gA 167 ad) s.heap H locs → lv_has ls 5 [(0, .ref (ad (10 * i + 1))), (2, .int x2), (3, .int x3), (4, .int x4)] → fX4_nextByNumber_41 F τ n41 x2 x3 x4 = some res → W p l e rX4_nextByNumber s m args below meth c H locs 0 0 Q (F0 m 41 ls []) := by
    intro n41
    induction n41 with
    | zero =>
      intro H locs x2 x3 x4 ls hP hS hl hf
      rw [fX4_nextByNumber_41] at hf
      cases hf
    | succ n41 ih41 =>
      skip
      have blk77 : ∀ (H : Heap) (locs : List Loc) (x3 : Int32) (x4 : Int32) (ls : Array Slot), va_P D vwCl (cw cI cT cM ad (u3 σ i τ)) H → va_S (gA 167 ad) s.heap H locs → lv_has ls 5 [(0, .ref (ad (10 * i + 1))), (3, .int x3), (4, .int x4)] → fX4_nextByNumber_77 F τ (fun x2 x3 x4 => fX4_nextByNumber_41 F τ n41 x2 x3 x4) x3 x4 = some res → W p l e rX4_nextByNumber s m args below meth c H locs 0 0 Q (F0 m 77 ls []) := by
        intro H locs x3 x4 ls hP hS hl hf
        unfold fX4_nextByNumber_77 at hf
        refine lv_iload_n hx hb dX4_nextByNumber_77 rfl (lv_at hl 1 rfl) ?_
        refine lv_istore_n (lv' := [(2, .int x3), (0, .ref (ad (10 * i + 1))), (3, .int x3), (4, .int x4)]) hx hb dX4_nextByNumber_78 rfl hl (by decide) rfl (fun ls hl => ?_)
        refine lv_aload_n hx hb dX4_nextByNumber_79 rfl (lv_at hl 1 rfl) ?_
        refine lv_iload_n hx hb dX4_nextByNumber_80 rfl (lv_at hl 0 rfl) ?_
        obtain ⟨q15, hq15, hf⟩ := obE hf
        refine ct_cVi (rest := []) (tX4_parentOf hD hi hq15) hx hb hml hown ht hX hP hS wX4_parentOf kML_RX4_77 rfl rfl ⟨Nat.le_of_ble_eq_true rfl, Nat.le_of_ble_eq_true rfl⟩ (va_recv hX.1 hP rfl (ct_nodes hi)) rfl hl.1 rfl (Nat.le_of_ble_eq_true rfl) dX4_nextByNumber_81 (fun H locs hP hS => ?_)
        refine lv_istore_n (lv' := [(3, .int q15), (2, .int x3), (0, .ref (ad (10 * i + 1))), (4, .int x4)]) hx hb dX4_nextByNumber_84 rfl hl (by decide) rfl (fun ls hl => ?_)
        refine lv_iinc (v := x4 + (1 : Int32)) (lv' := [(4, .int (x4 + (1 : Int32))), (3, .int q15), (2, .int x3), (0, .ref (ad (10 * i + 1)))]) hx hb dX4_nextByNumber_85 hl (k := 3) rfl rfl (by decide) rfl (fun ls hl => ?_)
        refine lv_goto (tgt := 41) hx hb dX4_nextByNumber_88 (by decide) ?_
        exact ih41 _ _ x3 q15 (x4 + (1 : Int32)) ls hP hS (lv_sub hl [3, 2, 1, 0] rfl) hf
      intro H locs x2 x3 x4 ls hP hS hl hf
      rw [fX4_nextByNumber_41] at hf
      refine lv_iload hx hb dX4_nextByNumber_41 (lv_at hl 3 rfl) ?_
      refine lv_bipush (v := (60 : Int32)) hx hb dX4_nextByNumber_43 (by decide) ?_
      refine lv_icmp_ge (tgt := 91) hx hb dX4_nextByNumber_45 (by decide) (fun hc8 => ?_) (fun hc8 => ?_)
      · rw [if_pos hc8] at hf
        refine lv_iconst (v := (-1 : Int32)) hx hb dX4_nextByNumber_91 (by decide) ?_
        have e0 := Option.some.inj hf
        subst e0
        exact hret _ _ _ _ hP hS dX4_nextByNumber_92
      · rw [if_neg hc8] at hf
        refine lv_iload_n hx hb dX4_nextByNumber_48 rfl (lv_at hl 2 rfl) ?_
        refine lv_iconst (v := (-1 : Int32)) hx hb dX4_nextByNumber_49 (by decide) ?_
        refine lv_icmp_eq (tgt := 91) hx hb dX4_nextByNumber_50 (by decide) (fun hc9 => ?_) (fun hc9 => ?_)
        · rw [if_pos hc9] at hf
          refine lv_iconst (v := (-1 : Int32)) hx hb dX4_nextByNumber_91 (by decide) ?_
          have e0 := Option.some.inj hf
          subst e0
          exact hret _ _ _ _ hP hS dX4_nextByNumber_92
        · rw [if_neg hc9] at hf
          refine lv_aload_n hx hb dX4_nextByNumber_53 rfl (lv_at hl 0 rfl) ?_
          refine lv_iload_n hx hb dX4_nextByNumber_54 rfl (lv_at hl 2 rfl) ?_
          obtain ⟨q10, hq10, hf⟩ := obE hf
          refine ct_cVi (rest := []) (tX4_leftOf hD hi hq10) hx hb hml hown ht hX hP hS wX4_leftOf kML_RX4_53 rfl rfl ⟨Nat.le_of_ble_eq_true rfl, Nat.le_of_ble_eq_true rfl⟩ (va_recv hX.1 hP rfl (ct_nodes hi)) rfl hl.1 rfl (Nat.le_of_ble_eq_true rfl) dX4_nextByNumber_55 (fun H locs hP hS => ?_)
          refine lv_iload_n hx hb dX4_nextByNumber_58 rfl (lv_at hl 1 rfl) ?_
          refine lv_icmp_ne (tgt := 77) hx hb dX4_nextByNumber_59 (by decide) (fun hc11 => ?_) (fun hc11 => ?_)
          · rw [if_neg hc11] at hf
            exact blk77 _ _ x3 x4 ls hP hS (lv_sub hl [0, 2, 3] rfl) hf
          · rw [if_pos hc11] at hf
            refine lv_aload_n hx hb dX4_nextByNumber_62 rfl (lv_at hl 0 rfl) ?_
            refine lv_iload_n hx hb dX4_nextByNumber_63 rfl (lv_at hl 2 rfl) ?_
            obtain ⟨q12, hq12, hf⟩ := obE hf
            refine ct_cVi (rest := []) (tX4_rightOf hD hi hq12) hx hb hml hown ht hX hP hS wX4_rightOf kML_RX4_56 rfl rfl ⟨Nat.le_of_ble_eq_true rfl, Nat.le_of_ble_eq_true rfl⟩ (va_recv hX.1 hP rfl (ct_nodes hi)) rfl hl.1 rfl (Nat.le_of_ble_eq_true rfl) dX4_nextByNumber_64 (fun H locs hP hS => ?_)
            refine lv_iconst (v := (-1 : Int32)) hx hb dX4_nextByNumber_67 (by decide) ?_
            refine lv_icmp_eq (tgt := 77) hx hb dX4_nextByNumber_68 (by decide) (fun hc13 => ?_) (fun hc13 => ?_)
            · rw [if_pos hc13] at hf
              exact blk77 _ _ x3 x4 ls hP hS (lv_sub hl [0, 2, 3] rfl) hf
            · rw [if_neg hc13] at hf
              refine lv_aload_n hx hb dX4_nextByNumber_71 rfl (lv_at hl 0 rfl) ?_
              refine lv_iload_n hx hb dX4_nextByNumber_72 rfl (lv_at hl 2 rfl) ?_
              obtain ⟨q14, hq14, hf⟩ := obE hf
              refine ct_cVi (rest := []) (tX4_rightOf hD hi hq14) hx hb hml hown ht hX hP hS wX4_rightOf kML_RX4_56 rfl rfl ⟨Nat.le_of_ble_eq_true rfl, Nat.le_of_ble_eq_true rfl⟩ (va_recv hX.1 hP rfl (ct_nodes hi)) rfl hl.1 rfl (Nat.le_of_ble_eq_true rfl) dX4_nextByNumber_73 (fun H locs hP hS => ?_)
              have e0 := Option.some.inj hf
              subst e0
              exact hret _ _ _ _ hP hS dX4_nextByNumber_76
  unfold fX4_nextByNumber at hf
  refine lv_aload_n hx hb dX4_nextByNumber_0 rfl (lv_at hl 0 rfl) ?_
  refine lv_iload_n hx hb dX4_nextByNumber_1 rfl (lv_at hl 1 rfl) ?_
  obtain ⟨q1, hq1, hf⟩ := obE hf
  refine ct_cVi (rest := []) (tX4_leftOf hD hi hq1) hx hb hml hown ht hX hP hS wX4_leftOf kML_RX4_53 rfl rfl ⟨Nat.le_of_ble_eq_true rfl, Nat.le_of_ble_eq_true rfl⟩ (va_recv hX.1 hP rfl (ct_nodes hi)) rfl hl.1 rfl (Nat.le_of_ble_eq_true rfl) dX4_nextByNumber_2 (fun H locs hP hS => ?_)
  refine lv_iconst (v := (-1 : Int32)) hx hb dX4_nextByNumber_5 (by decide) ?_
  refine lv_icmp_eq (tgt := 15) hx hb dX4_nextByNumber_6 (by decide) (fun hc2 => ?_) (fun hc2 => ?_)
  · rw [if_pos hc2] at hf
    refine lv_aload_n hx hb dX4_nextByNumber_15 rfl (lv_at hl 0 rfl) ?_
    refine lv_iload_n hx hb dX4_nextByNumber_16 rfl (lv_at hl 1 rfl) ?_
    obtain ⟨q3, hq3, hf⟩ := obE hf
    refine ct_cVi (rest := []) (tX4_rightOf hD hi hq3) hx hb hml hown ht hX hP hS wX4_rightOf kML_RX4_56 rfl rfl ⟨Nat.le_of_ble_eq_true rfl, Nat.le_of_ble_eq_true rfl⟩ (va_recv hX.1 hP rfl (ct_nodes hi)) rfl hl.1 rfl (Nat.le_of_ble_eq_true rfl) dX4_nextByNumber_17 (fun H locs hP hS => ?_)
    refine lv_iconst (v := (-1 : Int32)) hx hb dX4_nextByNumber_20 (by decide) ?_
    refine lv_icmp_eq (tgt := 30) hx hb dX4_nextByNumber_21 (by decide) (fun hc4 => ?_) (fun hc4 => ?_)
    · rw [if_pos hc4] at hf
      refine lv_iload_n hx hb dX4_nextByNumber_30 rfl (lv_at hl 1 rfl) ?_
      refine lv_istore_n (lv' := [(2, .int x1), (0, .ref (ad (10 * i + 1))), (1, .int x1)]) hx hb dX4_nextByNumber_31 rfl hl (by decide) rfl (fun ls hl => ?_)
      refine lv_aload_n hx hb dX4_nextByNumber_32 rfl (lv_at hl 1 rfl) ?_
      refine lv_iload_n hx hb dX4_nextByNumber_33 rfl (lv_at hl 2 rfl) ?_
      obtain ⟨q5, hq5, hf⟩ := obE hf
      refine ct_cVi (rest := []) (tX4_parentOf hD hi hq5) hx hb hml hown ht hX hP hS wX4_parentOf kML_RX4_77 rfl rfl ⟨Nat.le_of_ble_eq_true rfl, Nat.le_of_ble_eq_true rfl⟩ (va_recv hX.1 hP rfl (ct_nodes hi)) rfl hl.1 rfl (Nat.le_of_ble_eq_true rfl) dX4_nextByNumber_34 (fun H locs hP hS => ?_)
      refine lv_istore_n (lv' := [(3, .int q5), (2, .int x1), (0, .ref (ad (10 * i + 1))), (1, .int x1)]) hx hb dX4_nextByNumber_37 rfl hl (by decide) rfl (fun ls hl => ?_)
      refine lv_iconst (v := (0 : Int32)) hx hb dX4_nextByNumber_38 (by decide) ?_
      refine lv_istore (lv' := [(4, .int ((0 : Int32))), (3, .int q5), (2, .int x1), (0, .ref (ad (10 * i + 1))), (1, .int x1)]) hx hb dX4_nextByNumber_39 hl (by decide) rfl (fun ls hl => ?_)
      exact blk41 F _ _ x1 q5 (0 : Int32) ls hP hS (lv_sub hl [3, 2, 1, 0] rfl) hf
    · rw [if_neg hc4] at hf
      refine lv_aload_n hx hb dX4_nextByNumber_24 rfl (lv_at hl 0 rfl) ?_
      refine lv_iload_n hx hb dX4_nextByNumber_25 rfl (lv_at hl 1 rfl) ?_
      obtain ⟨q6, hq6, hf⟩ := obE hf
      refine ct_cVi (rest := []) (tX4_rightOf hD hi hq6) hx hb hml hown ht hX hP hS wX4_rightOf kML_RX4_56 rfl rfl ⟨Nat.le_of_ble_eq_true rfl, Nat.le_of_ble_eq_true rfl⟩ (va_recv hX.1 hP rfl (ct_nodes hi)) rfl hl.1 rfl (Nat.le_of_ble_eq_true rfl) dX4_nextByNumber_26 (fun H locs hP hS => ?_)
      have e0 := Option.some.inj hf
      subst e0
      exact hret _ _ _ _ hP hS dX4_nextByNumber_29
  · rw [if_neg hc2] at hf
    refine lv_aload_n hx hb dX4_nextByNumber_9 rfl (lv_at hl 0 rfl) ?_
    refine lv_iload_n hx hb dX4_nextByNumber_10 rfl (lv_at hl 1 rfl) ?_
    obtain ⟨q7, hq7, hf⟩ := obE hf
    refine ct_cVi (rest := []) (tX4_leftOf hD hi hq7) hx hb hml hown ht hX hP hS wX4_leftOf kML_RX4_53 rfl rfl ⟨Nat.le_of_ble_eq_true rfl, Nat.le_of_ble_eq_true rfl⟩ (va_recv hX.1 hP rfl (ct_nodes hi)) rfl hl.1 rfl (Nat.le_of_ble_eq_true rfl) dX4_nextByNumber_11 (fun H locs hP hS => ?_)
    have e0 := Option.some.inj hf
    subst e0
    exact hret _ _ _ _ hP hS dX4_nextByNumber_14
def fX4_slotOfNumber_21 (F : Nat) (τ : Tau) : Nat → Int32 → Int32 → Int32 → Option (Int32)
  | 0, _, _, _ => none
  | n + 1, x1, x2, x3 => if x1 ≤ x3 then (some x2) else ((fX4_nextByNumber F τ x2).bind fun q4 => (fX4_slotOfNumber_21 F τ n x1 q4 (x3 + (1 : Int32))))
def fX4_slotOfNumber (F : Nat) (τ : Tau) (x1 : Int32) : Option (Int32) := if x1 < 0 then (some (-1 : Int32)) else (if x1 < (τ 6 1) then (fX4_slotOfNumber_21 F τ F x1 (τ 6 0) (0 : Int32)) else (some (-1 : Int32)))
abbrev rX4_slotOfNumber : Room := { frames := 2, cells := 0, slots := 0, locals := 45 }
theorem wX4_slotOfNumber : kV yX4_slotOfNumber cX4_slotOfNumber 4 (some .int) 1 := ⟨kCO_yX4_slotOfNumber, kIM_yX4_slotOfNumber, kSE_yX4_slotOfNumber, kIN_RX4, by decide +kernel, by decide +kernel, by decide +kernel⟩
set_option maxHeartbeats 4000000 in
set_option maxRecDepth 100000 in
theorem tX4_slotOfNumber {l : Launch} {D : va_G} {cI cT cM : ClassId} {ad : Nat → Nat} (hD : gInj 167 ad) {F : Nat} {σ : Sig} {i : Nat} (hi : i < 16) {τ : Tau} {x1 : Int32} {res : Int32} (hf : fX4_slotOfNumber F τ x1 = some res) : CTi l yX4_slotOfNumber cX4_slotOfNumber 4 .int rX4_slotOfNumber D (cTy cI cT cM) (gA 167 ad) [.ref (ad (10 * i + 1)), .int x1] (cw cI cT cM ad (u3 σ i τ)) res (cw cI cT cM ad (u3 σ i τ)) := by
  refine ct_int (by decide) (Nat.le_of_ble_eq_true rfl) ?_
  intro p e s m args below meth c Q ls hx hb hml hown ht hX hret hP hS hl
  have hl : lv_has ls 4 [(0, .ref (ad (10 * i + 1))), (1, .int x1)] := hl
  have blk21 : ∀ (n21 : Nat) (H : Heap) (locs : List Loc) (x1 : Int32) (x2 : Int32) (x3 : Int32) (ls : Array Slot), va_P D vwCl (cw cI cT cM ad (u3 σ i τ)) H → va_S (gA 167 ad) s.heap H locs → lv_has ls 4 [(0, .ref (ad (10 * i + 1))), (1, .int x1), (2, .int x2), (3, .int x3)] → fX4_slotOfNumber_21 F τ n21 x1 x2 x3 = some res → W p l e rX4_slotOfNumber s m args below meth c H locs 0 0 Q (F0 m 21 ls []) := by
    intro n21
    induction n21 with
    | zero =>
      intro H locs x1 x2 x3 ls hP hS hl hf
      rw [fX4_slotOfNumber_21] at hf
      cases hf
    | succ n21 ih21 =>
      skip
      intro H locs x1 x2 x3 ls hP hS hl hf
      rw [fX4_slotOfNumber_21] at hf
      refine lv_iload_n hx hb dX4_slotOfNumber_21 rfl (lv_at hl 3 rfl) ?_
      refine lv_iload_n hx hb dX4_slotOfNumber_22 rfl (lv_at hl 1 rfl) ?_
      refine lv_icmp_ge (tgt := 38) hx hb dX4_slotOfNumber_23 (by decide) (fun hc3 => ?_) (fun hc3 => ?_)
      · rw [if_pos hc3] at hf
        refine lv_iload_n hx hb dX4_slotOfNumber_38 rfl (lv_at hl 2 rfl) ?_
        have e0 := Option.some.inj hf
        subst e0
        exact hret _ _ _ _ hP hS dX4_slotOfNumber_39
      · rw [if_neg hc3] at hf
        refine lv_aload_n hx hb dX4_slotOfNumber_26 rfl (lv_at hl 0 rfl) ?_
        refine lv_iload_n hx hb dX4_slotOfNumber_27 rfl (lv_at hl 2 rfl) ?_
        obtain ⟨q4, hq4, hf⟩ := obE hf
        refine ct_cVi (rest := []) (tX4_nextByNumber hD hi hq4) hx hb hml hown ht hX hP hS wX4_nextByNumber kML_RX4_86 rfl rfl ⟨Nat.le_of_ble_eq_true rfl, Nat.le_of_ble_eq_true rfl⟩ (va_recv hX.1 hP rfl (ct_nodes hi)) rfl hl.1 rfl (Nat.le_of_ble_eq_true rfl) dX4_slotOfNumber_28 (fun H locs hP hS => ?_)
        refine lv_istore_n (lv' := [(2, .int q4), (0, .ref (ad (10 * i + 1))), (1, .int x1), (3, .int x3)]) hx hb dX4_slotOfNumber_31 rfl hl (by decide) rfl (fun ls hl => ?_)
        refine lv_iinc (v := x3 + (1 : Int32)) (lv' := [(3, .int (x3 + (1 : Int32))), (2, .int q4), (0, .ref (ad (10 * i + 1))), (1, .int x1)]) hx hb dX4_slotOfNumber_32 hl (k := 3) rfl rfl (by decide) rfl (fun ls hl => ?_)
        refine lv_goto (tgt := 21) hx hb dX4_slotOfNumber_35 (by decide) ?_
        exact ih21 _ _ x1 q4 (x3 + (1 : Int32)) ls hP hS (lv_sub hl [2, 3, 1, 0] rfl) hf
  unfold fX4_slotOfNumber at hf
  refine lv_iload_n hx hb dX4_slotOfNumber_0 rfl (lv_at hl 1 rfl) ?_
  refine lv_if_lt (tgt := 12) hx hb dX4_slotOfNumber_1 (by decide) (fun hc1 => ?_) (fun hc1 => ?_)
  · rw [if_pos hc1] at hf
    refine lv_iconst (v := (-1 : Int32)) hx hb dX4_slotOfNumber_12 (by decide) ?_
    have e0 := Option.some.inj hf
    subst e0
    exact hret _ _ _ _ hP hS dX4_slotOfNumber_13
  · rw [if_neg hc1] at hf
    refine lv_iload_n hx hb dX4_slotOfNumber_4 rfl (lv_at hl 1 rfl) ?_
    refine lv_aload_n hx hb dX4_slotOfNumber_5 rfl (lv_at hl 0 rfl) ?_
    refine va_get (ci := 3) (v := .int (τ 6 1)) hx hb ht i_X4 hown hX.1 hP (10 * i + 1) (ct_nodes hi) rfl 7 (by decide) (ht _ kFL_RX4_34) (fun _ h9 => h9) rfl dX4_slotOfNumber_6 ?_
    refine lv_icmp_lt (tgt := 14) hx hb dX4_slotOfNumber_9 (by decide) (fun hc2 => ?_) (fun hc2 => ?_)
    · rw [if_pos hc2] at hf
      refine lv_aload_n hx hb dX4_slotOfNumber_14 rfl (lv_at hl 0 rfl) ?_
      refine va_get (ci := 3) (v := .int (τ 6 0)) hx hb ht i_X4 hown hX.1 hP (10 * i + 1) (ct_nodes hi) rfl 6 (by decide) (ht _ kFL_RX4_30) (fun _ h9 => h9) rfl dX4_slotOfNumber_15 ?_
      refine lv_istore_n (lv' := [(2, .int (τ 6 0)), (0, .ref (ad (10 * i + 1))), (1, .int x1)]) hx hb dX4_slotOfNumber_18 rfl hl (by decide) rfl (fun ls hl => ?_)
      refine lv_iconst (v := (0 : Int32)) hx hb dX4_slotOfNumber_19 (by decide) ?_
      refine lv_istore_n (lv' := [(3, .int ((0 : Int32))), (2, .int (τ 6 0)), (0, .ref (ad (10 * i + 1))), (1, .int x1)]) hx hb dX4_slotOfNumber_20 rfl hl (by decide) rfl (fun ls hl => ?_)
      exact blk21 F _ _ x1 (τ 6 0) (0 : Int32) ls hP hS (lv_sub hl [2, 3, 1, 0] rfl) hf
    · rw [if_neg hc2] at hf
      refine lv_iconst (v := (-1 : Int32)) hx hb dX4_slotOfNumber_12 (by decide) ?_
      have e0 := Option.some.inj hf
      subst e0
      exact hret _ _ _ _ hP hS dX4_slotOfNumber_13
def fX4_numberOfSlot_7 (F : Nat) (τ : Tau) : Nat → Int32 → Int32 → Int32 → Option (Int32)
  | 0, _, _, _ => none
  | n + 1, x1, x2, x3 => if (τ 6 1) ≤ x3 then (some (-1 : Int32)) else (if x2 = x1 then (some x3) else ((fX4_nextByNumber F τ x2).bind fun q3 => (fX4_numberOfSlot_7 F τ n x1 q3 (x3 + (1 : Int32)))))
def fX4_numberOfSlot (F : Nat) (τ : Tau) (x1 : Int32) : Option (Int32) := fX4_numberOfSlot_7 F τ F x1 (τ 6 0) (0 : Int32)
abbrev rX4_numberOfSlot : Room := { frames := 2, cells := 0, slots := 0, locals := 45 }
theorem wX4_numberOfSlot : kV yX4_numberOfSlot cX4_numberOfSlot 4 (some .int) 1 := ⟨kCO_yX4_numberOfSlot, kIM_yX4_numberOfSlot, kSE_yX4_numberOfSlot, kIN_RX4, by decide +kernel, by decide +kernel, by decide +kernel⟩
set_option maxHeartbeats 4000000 in
set_option maxRecDepth 100000 in
theorem tX4_numberOfSlot {l : Launch} {D : va_G} {cI cT cM : ClassId} {ad : Nat → Nat} (hD : gInj 167 ad) {F : Nat} {σ : Sig} {i : Nat} (hi : i < 16) {τ : Tau} {x1 : Int32} {res : Int32} (hf : fX4_numberOfSlot F τ x1 = some res) : CTi l yX4_numberOfSlot cX4_numberOfSlot 4 .int rX4_numberOfSlot D (cTy cI cT cM) (gA 167 ad) [.ref (ad (10 * i + 1)), .int x1] (cw cI cT cM ad (u3 σ i τ)) res (cw cI cT cM ad (u3 σ i τ)) := by
  refine ct_int (by decide) (Nat.le_of_ble_eq_true rfl) ?_
  intro p e s m args below meth c Q ls hx hb hml hown ht hX hret hP hS hl
  have hl : lv_has ls 4 [(0, .ref (ad (10 * i + 1))), (1, .int x1)] := hl
  have blk7 : ∀ (n7 : Nat) (H : Heap) (locs : List Loc) (x1 : Int32) (x2 : Int32) (x3 : Int32) (ls : Array Slot), va_P D vwCl (cw cI cT cM ad (u3 σ i τ)) H → va_S (gA 167 ad) s.heap H locs → lv_has ls 4 [(0, .ref (ad (10 * i + 1))), (1, .int x1), (2, .int x2), (3, .int x3)] → fX4_numberOfSlot_7 F τ n7 x1 x2 x3 = some res → W p l e rX4_numberOfSlot s m args below meth c H locs 0 0 Q (F0 m 7 ls []) := by
    intro n7
    induction n7 with
    | zero =>
      intro H locs x1 x2 x3 ls hP hS hl hf
      rw [fX4_numberOfSlot_7] at hf
      cases hf
    | succ n7 ih7 =>
      skip
      intro H locs x1 x2 x3 ls hP hS hl hf
      rw [fX4_numberOfSlot_7] at hf
      refine lv_iload_n hx hb dX4_numberOfSlot_7 rfl (lv_at hl 3 rfl) ?_
      refine lv_aload_n hx hb dX4_numberOfSlot_8 rfl (lv_at hl 0 rfl) ?_
      refine va_get (ci := 3) (v := .int (τ 6 1)) hx hb ht i_X4 hown hX.1 hP (10 * i + 1) (ct_nodes hi) rfl 7 (by decide) (ht _ kFL_RX4_34) (fun _ h9 => h9) rfl dX4_numberOfSlot_9 ?_
      refine lv_icmp_ge (tgt := 34) hx hb dX4_numberOfSlot_12 (by decide) (fun hc1 => ?_) (fun hc1 => ?_)
      · rw [if_pos hc1] at hf
        refine lv_iconst (v := (-1 : Int32)) hx hb dX4_numberOfSlot_34 (by decide) ?_
        have e0 := Option.some.inj hf
        subst e0
        exact hret _ _ _ _ hP hS dX4_numberOfSlot_35
      · rw [if_neg hc1] at hf
        refine lv_iload_n hx hb dX4_numberOfSlot_15 rfl (lv_at hl 2 rfl) ?_
        refine lv_iload_n hx hb dX4_numberOfSlot_16 rfl (lv_at hl 1 rfl) ?_
        refine lv_icmp_ne (tgt := 22) hx hb dX4_numberOfSlot_17 (by decide) (fun hc2 => ?_) (fun hc2 => ?_)
        · rw [if_neg hc2] at hf
          refine lv_aload_n hx hb dX4_numberOfSlot_22 rfl (lv_at hl 0 rfl) ?_
          refine lv_iload_n hx hb dX4_numberOfSlot_23 rfl (lv_at hl 2 rfl) ?_
          obtain ⟨q3, hq3, hf⟩ := obE hf
          refine ct_cVi (rest := []) (tX4_nextByNumber hD hi hq3) hx hb hml hown ht hX hP hS wX4_nextByNumber kML_RX4_86 rfl rfl ⟨Nat.le_of_ble_eq_true rfl, Nat.le_of_ble_eq_true rfl⟩ (va_recv hX.1 hP rfl (ct_nodes hi)) rfl hl.1 rfl (Nat.le_of_ble_eq_true rfl) dX4_numberOfSlot_24 (fun H locs hP hS => ?_)
          refine lv_istore_n (lv' := [(2, .int q3), (0, .ref (ad (10 * i + 1))), (1, .int x1), (3, .int x3)]) hx hb dX4_numberOfSlot_27 rfl hl (by decide) rfl (fun ls hl => ?_)
          refine lv_iinc (v := x3 + (1 : Int32)) (lv' := [(3, .int (x3 + (1 : Int32))), (2, .int q3), (0, .ref (ad (10 * i + 1))), (1, .int x1)]) hx hb dX4_numberOfSlot_28 hl (k := 3) rfl rfl (by decide) rfl (fun ls hl => ?_)
          refine lv_goto (tgt := 7) hx hb dX4_numberOfSlot_31 (by decide) ?_
          exact ih7 _ _ x1 q3 (x3 + (1 : Int32)) ls hP hS (lv_sub hl [2, 3, 1, 0] rfl) hf
        · rw [if_pos hc2] at hf
          refine lv_iload_n hx hb dX4_numberOfSlot_20 rfl (lv_at hl 3 rfl) ?_
          have e0 := Option.some.inj hf
          subst e0
          exact hret _ _ _ _ hP hS dX4_numberOfSlot_21
  unfold fX4_numberOfSlot at hf
  refine lv_aload_n hx hb dX4_numberOfSlot_0 rfl (lv_at hl 0 rfl) ?_
  refine va_get (ci := 3) (v := .int (τ 6 0)) hx hb ht i_X4 hown hX.1 hP (10 * i + 1) (ct_nodes hi) rfl 6 (by decide) (ht _ kFL_RX4_30) (fun _ h9 => h9) rfl dX4_numberOfSlot_1 ?_
  refine lv_istore_n (lv' := [(2, .int (τ 6 0)), (0, .ref (ad (10 * i + 1))), (1, .int x1)]) hx hb dX4_numberOfSlot_4 rfl hl (by decide) rfl (fun ls hl => ?_)
  refine lv_iconst (v := (0 : Int32)) hx hb dX4_numberOfSlot_5 (by decide) ?_
  refine lv_istore_n (lv' := [(3, .int ((0 : Int32))), (2, .int (τ 6 0)), (0, .ref (ad (10 * i + 1))), (1, .int x1)]) hx hb dX4_numberOfSlot_6 rfl hl (by decide) rfl (fun ls hl => ?_)
  exact blk7 F _ _ x1 (τ 6 0) (0 : Int32) ls hP hS (lv_sub hl [2, 3, 1, 0] rfl) hf
def fX4_howManyAbove_11 (F : Nat) (τ : Tau) : Nat → Int32 → Int32 → Int32 → Option (Int32)
  | 0, _, _, _ => none
  | n + 1, x2, x3, x4 => if (60 : Int32) ≤ x4 then (some x2) else (if x3 = (-1 : Int32) then (some x2) else ((fX4_parentOf F τ x3).bind fun q4 => (fX4_howManyAbove_11 F τ n (x2 + (1 : Int32)) q4 (x4 + (1 : Int32)))))
def fX4_howManyAbove (F : Nat) (τ : Tau) (x1 : Int32) : Option (Int32) := (fX4_parentOf F τ x1).bind fun q1 => (fX4_howManyAbove_11 F τ F (0 : Int32) q1 (0 : Int32))
abbrev rX4_howManyAbove : Room := { frames := 1, cells := 0, slots := 0, locals := 21 }
theorem wX4_howManyAbove : kV yX4_howManyAbove cX4_howManyAbove 5 (some .int) 1 := ⟨kCO_yX4_howManyAbove, kIM_yX4_howManyAbove, kSE_yX4_howManyAbove, kIN_RX4, by decide +kernel, by decide +kernel, by decide +kernel⟩
set_option maxHeartbeats 4000000 in
set_option maxRecDepth 100000 in
theorem tX4_howManyAbove {l : Launch} {D : va_G} {cI cT cM : ClassId} {ad : Nat → Nat} (hD : gInj 167 ad) {F : Nat} {σ : Sig} {i : Nat} (hi : i < 16) {τ : Tau} {x1 : Int32} {res : Int32} (hf : fX4_howManyAbove F τ x1 = some res) : CTi l yX4_howManyAbove cX4_howManyAbove 5 .int rX4_howManyAbove D (cTy cI cT cM) (gA 167 ad) [.ref (ad (10 * i + 1)), .int x1] (cw cI cT cM ad (u3 σ i τ)) res (cw cI cT cM ad (u3 σ i τ)) := by
  refine ct_int (by decide) (Nat.le_of_ble_eq_true rfl) ?_
  intro p e s m args below meth c Q ls hx hb hml hown ht hX hret hP hS hl
  have hl : lv_has ls 5 [(0, .ref (ad (10 * i + 1))), (1, .int x1)] := hl
  have blk11 : ∀ (n11 : Nat) (H : Heap) (locs : List Loc) (x2 : Int32) (x3 : Int32) (x4 : Int32) (ls : Array Slot), va_P D vwCl (cw cI cT cM ad (u3 σ i τ)) H → va_S (gA 167 ad) s.heap H locs → lv_has ls 5 [(0, .ref (ad (10 * i + 1))), (2, .int x2), (3, .int x3), (4, .int x4)] → fX4_howManyAbove_11 F τ n11 x2 x3 x4 = some res → W p l e rX4_howManyAbove s m args below meth c H locs 0 0 Q (F0 m 11 ls []) := by
    intro n11
    induction n11 with
    | zero =>
      intro H locs x2 x3 x4 ls hP hS hl hf
      rw [fX4_howManyAbove_11] at hf
      cases hf
    | succ n11 ih11 =>
      skip
      intro H locs x2 x3 x4 ls hP hS hl hf
      rw [fX4_howManyAbove_11] at hf
      refine lv_iload hx hb dX4_howManyAbove_11 (lv_at hl 3 rfl) ?_
      refine lv_bipush (v := (60 : Int32)) hx hb dX4_howManyAbove_13 (by decide) ?_
      refine lv_icmp_ge (tgt := 38) hx hb dX4_howManyAbove_15 (by decide) (fun hc2 => ?_) (fun hc2 => ?_)
      · rw [if_pos hc2] at hf
        refine lv_iload_n hx hb dX4_howManyAbove_38 rfl (lv_at hl 1 rfl) ?_
        have e0 := Option.some.inj hf
        subst e0
        exact hret _ _ _ _ hP hS dX4_howManyAbove_39
      · rw [if_neg hc2] at hf
        refine lv_iload_n hx hb dX4_howManyAbove_18 rfl (lv_at hl 2 rfl) ?_
        refine lv_iconst (v := (-1 : Int32)) hx hb dX4_howManyAbove_19 (by decide) ?_
        refine lv_icmp_eq (tgt := 38) hx hb dX4_howManyAbove_20 (by decide) (fun hc3 => ?_) (fun hc3 => ?_)
        · rw [if_pos hc3] at hf
          refine lv_iload_n hx hb dX4_howManyAbove_38 rfl (lv_at hl 1 rfl) ?_
          have e0 := Option.some.inj hf
          subst e0
          exact hret _ _ _ _ hP hS dX4_howManyAbove_39
        · rw [if_neg hc3] at hf
          refine lv_iinc (v := x2 + (1 : Int32)) (lv' := [(2, .int (x2 + (1 : Int32))), (0, .ref (ad (10 * i + 1))), (3, .int x3), (4, .int x4)]) hx hb dX4_howManyAbove_23 hl (k := 1) rfl rfl (by decide) rfl (fun ls hl => ?_)
          refine lv_aload_n hx hb dX4_howManyAbove_26 rfl (lv_at hl 1 rfl) ?_
          refine lv_iload_n hx hb dX4_howManyAbove_27 rfl (lv_at hl 2 rfl) ?_
          obtain ⟨q4, hq4, hf⟩ := obE hf
          refine ct_cVi (rest := []) (tX4_parentOf hD hi hq4) hx hb hml hown ht hX hP hS wX4_parentOf kML_RX4_77 rfl rfl ⟨Nat.le_of_ble_eq_true rfl, Nat.le_of_ble_eq_true rfl⟩ (va_recv hX.1 hP rfl (ct_nodes hi)) rfl hl.1 rfl (Nat.le_of_ble_eq_true rfl) dX4_howManyAbove_28 (fun H locs hP hS => ?_)
          refine lv_istore_n (lv' := [(3, .int q4), (2, .int (x2 + (1 : Int32))), (0, .ref (ad (10 * i + 1))), (4, .int x4)]) hx hb dX4_howManyAbove_31 rfl hl (by decide) rfl (fun ls hl => ?_)
          refine lv_iinc (v := x4 + (1 : Int32)) (lv' := [(4, .int (x4 + (1 : Int32))), (3, .int q4), (2, .int (x2 + (1 : Int32))), (0, .ref (ad (10 * i + 1)))]) hx hb dX4_howManyAbove_32 hl (k := 3) rfl rfl (by decide) rfl (fun ls hl => ?_)
          refine lv_goto (tgt := 11) hx hb dX4_howManyAbove_35 (by decide) ?_
          exact ih11 _ _ (x2 + (1 : Int32)) q4 (x4 + (1 : Int32)) ls hP hS (lv_sub hl [3, 2, 1, 0] rfl) hf
  unfold fX4_howManyAbove at hf
  refine lv_iconst (v := (0 : Int32)) hx hb dX4_howManyAbove_0 (by decide) ?_
  refine lv_istore_n (lv' := [(2, .int ((0 : Int32))), (0, .ref (ad (10 * i + 1))), (1, .int x1)]) hx hb dX4_howManyAbove_1 rfl hl (by decide) rfl (fun ls hl => ?_)
  refine lv_aload_n hx hb dX4_howManyAbove_2 rfl (lv_at hl 1 rfl) ?_
  refine lv_iload_n hx hb dX4_howManyAbove_3 rfl (lv_at hl 2 rfl) ?_
  obtain ⟨q1, hq1, hf⟩ := obE hf
  refine ct_cVi (rest := []) (tX4_parentOf hD hi hq1) hx hb hml hown ht hX hP hS wX4_parentOf kML_RX4_77 rfl rfl ⟨Nat.le_of_ble_eq_true rfl, Nat.le_of_ble_eq_true rfl⟩ (va_recv hX.1 hP rfl (ct_nodes hi)) rfl hl.1 rfl (Nat.le_of_ble_eq_true rfl) dX4_howManyAbove_4 (fun H locs hP hS => ?_)
  refine lv_istore_n (lv' := [(3, .int q1), (2, .int ((0 : Int32))), (0, .ref (ad (10 * i + 1))), (1, .int x1)]) hx hb dX4_howManyAbove_7 rfl hl (by decide) rfl (fun ls hl => ?_)
  refine lv_iconst (v := (0 : Int32)) hx hb dX4_howManyAbove_8 (by decide) ?_
  refine lv_istore (lv' := [(4, .int ((0 : Int32))), (3, .int q1), (2, .int ((0 : Int32))), (0, .ref (ad (10 * i + 1))), (1, .int x1)]) hx hb dX4_howManyAbove_9 hl (by decide) rfl (fun ls hl => ?_)
  exact blk11 F _ _ (0 : Int32) q1 (0 : Int32) ls hP hS (lv_sub hl [3, 2, 1, 0] rfl) hf
def fX8_isWithin (F : Nat) (x0 : Int32) (x1 : Int32) (x2 : Int32) : Option (Int32) := if x0 < x1 then (some (0 : Int32)) else (if x2 < x0 then (some (0 : Int32)) else (some (1 : Int32)))
abbrev rX8_isWithin : Room := { frames := 0, cells := 0, slots := 0, locals := 0 }
theorem wX8_isWithin : kF yX8_isWithin cX8_isWithin 3 (some .boolean) 3 := ⟨kCO_yX8_isWithin, kSM_yX8_isWithin, kIN_RX8, by decide +kernel, by decide +kernel, by decide +kernel⟩
set_option maxHeartbeats 4000000 in
set_option maxRecDepth 100000 in
theorem tX8_isWithin {l : Launch} {D : va_G} {cI cT cM : ClassId} {ad : Nat → Nat} (hD : gInj 167 ad) {F : Nat} {σ : Sig} {x0 : Int32} {x1 : Int32} {x2 : Int32} {res : Int32} (hf : fX8_isWithin F x0 x1 x2 = some res) : CTi l yX8_isWithin cX8_isWithin 3 .boolean rX8_isWithin D (cTy cI cT cM) (gA 167 ad) [.int x0, .int x1, .int x2] (cw cI cT cM ad σ) res (cw cI cT cM ad σ) := by
  refine ct_bool (by decide) (Nat.le_of_ble_eq_true rfl) ?_
  intro p e s m args below meth c Q ls hx hb hml hown ht hX hret hP hS hl
  have hl : lv_has ls 3 [(0, .int x0), (1, .int x1), (2, .int x2)] := hl
  unfold fX8_isWithin at hf
  refine lv_iload_n hx hb dX8_isWithin_0 rfl (lv_at hl 0 rfl) ?_
  refine lv_iload_n hx hb dX8_isWithin_1 rfl (lv_at hl 1 rfl) ?_
  refine lv_icmp_lt (tgt := 14) hx hb dX8_isWithin_2 (by decide) (fun hc1 => ?_) (fun hc1 => ?_)
  · rw [if_pos hc1] at hf
    refine lv_iconst (v := (0 : Int32)) hx hb dX8_isWithin_14 (by decide) ?_
    have e0 := Option.some.inj hf
    subst e0
    exact hret _ _ _ _ (Or.inl rfl) hP hS dX8_isWithin_15
  · rw [if_neg hc1] at hf
    refine lv_iload_n hx hb dX8_isWithin_5 rfl (lv_at hl 0 rfl) ?_
    refine lv_iload_n hx hb dX8_isWithin_6 rfl (lv_at hl 2 rfl) ?_
    refine lv_icmp_gt (tgt := 14) hx hb dX8_isWithin_7 (by decide) (fun hc2 => ?_) (fun hc2 => ?_)
    · rw [if_pos hc2] at hf
      refine lv_iconst (v := (0 : Int32)) hx hb dX8_isWithin_14 (by decide) ?_
      have e0 := Option.some.inj hf
      subst e0
      exact hret _ _ _ _ (Or.inl rfl) hP hS dX8_isWithin_15
    · rw [if_neg hc2] at hf
      refine lv_iconst (v := (1 : Int32)) hx hb dX8_isWithin_10 (by decide) ?_
      refine lv_goto (tgt := 15) hx hb dX8_isWithin_11 (by decide) ?_
      have e0 := Option.some.inj hf
      subst e0
      exact hret _ _ _ _ (Or.inr rfl) hP hS dX8_isWithin_15
