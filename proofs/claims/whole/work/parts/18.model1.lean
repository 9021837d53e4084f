def fX9_in (F : Nat) (x0 : Int64) (x2 : Int64) (x4 : Int64) : Option (Int32) := if (lg_cmp x0 x2) < 0 then (some (0 : Int32)) else (if 0 < (lg_cmp x0 x4) then (some (0 : Int32)) else (some (1 : Int32)))
abbrev rX9_in : Room := { frames := 0, cells := 0, slots := 0, locals := 0 }
theorem wX9_in : kF yX9_in cX9_in 6 (some .boolean) 3 := ⟨kCO_yX9_in, kSM_yX9_in, kIN_RX9, by decide +kernel, by decide +kernel, by decide +kernel⟩
set_option maxHeartbeats 4000000 in
set_option maxRecDepth 100000 in
theorem tX9_in {l : Launch} {D : va_G} {cI cZ : ClassId} {ad : Nat → Nat} (hD : gInj 15 ad) {F : Nat} {un sd : Int32} {now past images iseed kept order numof above pile aside fewest deep keys worths : Nat → Int32} {x0 : Int64} {x2 : Int64} {x4 : Int64} {res : Int32} (hf : fX9_in F x0 x2 x4 = some res) : CTi l yX9_in cX9_in 6 .boolean rX9_in D (mTy cI cZ) (gA 15 ad) [.long (x0), .long (x2), .long (x4)] (mw cI cZ ad un sd now past images iseed kept order numof above pile aside fewest deep keys worths) res (mw cI cZ ad un sd now past images iseed kept order numof above pile aside fewest deep keys worths) := by
  refine ct_bool (by decide) (Nat.le_of_ble_eq_true rfl) ?_
  intro p e s m args below meth c Q ls hx hb hml hown ht hX hret hP hS hl
  have hl : lv_has ls 6 [(0, .long (x0)), (2, .long (x2)), (4, .long (x4))] := hl
  unfold fX9_in at hf
  refine lv_lload_n hx hb dX9_in_0 rfl (lv_at hl 0 rfl) ?_
  refine lv_lload_n hx hb dX9_in_1 rfl (lv_at hl 1 rfl) ?_
  refine W.lcmp hx hb dX9_in_2 ?_
  refine lv_if_lt (tgt := 17) hx hb dX9_in_3 (by decide) (fun hc1 => ?_) (fun hc1 => ?_)
  · rw [if_pos hc1] at hf
    refine lv_iconst (v := (0 : Int32)) hx hb dX9_in_17 (by decide) ?_
    have e0 := Option.some.inj hf
    subst e0
    exact hret _ _ _ _ (Or.inl rfl) hP hS dX9_in_18
  · rw [if_neg hc1] at hf
    refine lv_lload_n hx hb dX9_in_6 rfl (lv_at hl 0 rfl) ?_
    refine lv_lload hx hb dX9_in_7 (lv_at hl 2 rfl) ?_
    refine W.lcmp hx hb dX9_in_9 ?_
    refine lv_if_gt (tgt := 17) hx hb dX9_in_10 (by decide) (fun hc2 => ?_) (fun hc2 => ?_)
    · rw [if_pos hc2] at hf
      refine lv_iconst (v := (0 : Int32)) hx hb dX9_in_17 (by decide) ?_
      have e0 := Option.some.inj hf
      subst e0
      exact hret _ _ _ _ (Or.inl rfl) hP hS dX9_in_18
    · rw [if_neg hc2] at hf
      refine lv_iconst (v := (1 : Int32)) hx hb dX9_in_13 (by decide) ?_
      refine lv_goto (tgt := 18) hx hb dX9_in_14 (by decide) ?_
      have e0 := Option.some.inj hf
      subst e0
      exact hret _ _ _ _ (Or.inr rfl) hP hS dX9_in_18
def fX9_of (F : Nat) (now : Nat → Int32) (x1 : Int32) (x2 : Int32) : Option (Int32) := if (((6 : Int32) * x1) + x2) < 0 ∨ 368 ≤ (((6 : Int32) * x1) + x2).toNatClampNeg then none else (some (now (((6 : Int32) * x1) + x2).toNatClampNeg))
abbrev rX9_of : Room := { frames := 0, cells := 0, slots := 0, locals := 0 }
theorem wX9_of : kV yX9_of cX9_of 3 (some .int) 2 := ⟨kCO_yX9_of, kIM_yX9_of, kSE_yX9_of, kIN_RX9, by decide +kernel, by decide +kernel, by decide +kernel⟩
set_option maxHeartbeats 4000000 in
set_option maxRecDepth 100000 in
theorem tX9_of {l : Launch} {D : va_G} {cI cZ : ClassId} {ad : Nat → Nat} (hD : gInj 15 ad) {F : Nat} {un sd : Int32} {now past images iseed kept order numof above pile aside fewest deep keys worths : Nat → Int32} {x1 : Int32} {x2 : Int32} {res : Int32} (hf : fX9_of F now x1 x2 = some res) : CTi l yX9_of cX9_of 3 .int rX9_of D (mTy cI cZ) (gA 15 ad) [.ref (ad 0), .int x1, .int x2] (mw cI cZ ad un sd now past images iseed kept order numof above pile aside fewest deep keys worths) res (mw cI cZ ad un sd now past images iseed kept order numof above pile aside fewest deep keys worths) := by
  refine ct_int (by decide) (Nat.le_of_ble_eq_true rfl) ?_
  intro p e s m args below meth c Q ls hx hb hml hown ht hX hret hP hS hl
  have hl : lv_has ls 3 [(0, .ref (ad 0)), (1, .int x1), (2, .int x2)] := hl
  unfold fX9_of at hf
  refine lv_aload_n hx hb dX9_of_0 rfl (lv_at hl 0 rfl) ?_
  refine va_get (ci := 7) (v := .ref (ad 1)) hx hb ht i_X9 hown hX.1 hP 0 mw_obj rfl 0 (by decide) (ht _ kFL_RX9_7) (fun _ h9 => h9) rfl dX9_of_1 ?_
  refine lv_bipush (v := (6 : Int32)) hx hb dX9_of_4 (by decide) ?_
  refine lv_iload_n hx hb dX9_of_6 rfl (lv_at hl 1 rfl) ?_
  refine lv_imul hx hb dX9_of_7 ?_
  refine lv_iload_n hx hb dX9_of_8 rfl (lv_at hl 2 rfl) ?_
  refine lv_iadd hx hb dX9_of_9 ?_
  obtain ⟨hn1, hf⟩ := ngE _ hf
  refine va_iald hx hb hX.1 hP 1 0 mw_now rfl hn1 dX9_of_10 ?_
  have e0 := Option.some.inj hf
  subst e0
  exact hret _ _ _ _ hP hS dX9_of_11
def fX9_lays (F : Nat) (now : Nat → Int32) (x1 : Int32) (x2 : Int32) (x3 : Int32) : Option ((Nat → Int32)) := if (((6 : Int32) * x1) + x2) < 0 ∨ 368 ≤ (((6 : Int32) * x1) + x2).toNatClampNeg then none else (some (upd now (((6 : Int32) * x1) + x2).toNatClampNeg x3))
abbrev rX9_lays : Room := { frames := 0, cells := 0, slots := 0, locals := 0 }
theorem wX9_lays : kV yX9_lays cX9_lays 4 none 3 := ⟨kCO_yX9_lays, kIM_yX9_lays, kSE_yX9_lays, kIN_RX9, by decide +kernel, by decide +kernel, by decide +kernel⟩
set_option maxHeartbeats 4000000 in
set_option maxRecDepth 100000 in
theorem tX9_lays {l : Launch} {D : va_G} {cI cZ : ClassId} {ad : Nat → Nat} (hD : gInj 15 ad) {F : Nat} {un sd : Int32} {now past images iseed kept order numof above pile aside fewest deep keys worths : Nat → Int32} {x1 : Int32} {x2 : Int32} {x3 : Int32} {res : (Nat → Int32)} (hf : fX9_lays F now x1 x2 x3 = some res) : CTv l yX9_lays cX9_lays 4 rX9_lays D (mTy cI cZ) (gA 15 ad) [.ref (ad 0), .int x1, .int x2, .int x3] (mw cI cZ ad un sd now past images iseed kept order numof above pile aside fewest deep keys worths) (mw cI cZ ad un sd res past images iseed kept order numof above pile aside fewest deep keys worths) := by
  refine ct_void (by decide) (Nat.le_of_ble_eq_true rfl) ?_
  intro p e s m args below meth c Q ls hx hb hml hown ht hX hret hP hS hl
  have hl : lv_has ls 4 [(0, .ref (ad 0)), (1, .int x1), (2, .int x2), (3, .int x3)] := hl
  unfold fX9_lays at hf
  refine lv_aload_n hx hb dX9_lays_0 rfl (lv_at hl 0 rfl) ?_
  refine va_get (ci := 7) (v := .ref (ad 1)) hx hb ht i_X9 hown hX.1 hP 0 mw_obj rfl 0 (by decide) (ht _ kFL_RX9_7) (fun _ h9 => h9) rfl dX9_lays_1 ?_
  refine lv_bipush (v := (6 : Int32)) hx hb dX9_lays_4 (by decide) ?_
  refine lv_iload_n hx hb dX9_lays_6 rfl (lv_at hl 1 rfl) ?_
  refine lv_imul hx hb dX9_lays_7 ?_
  refine lv_iload_n hx hb dX9_lays_8 rfl (lv_at hl 2 rfl) ?_
  refine lv_iadd hx hb dX9_lays_9 ?_
  refine lv_iload_n hx hb dX9_lays_10 rfl (lv_at hl 3 rfl) ?_
  obtain ⟨hn1, hf⟩ := ngE _ hf
  refine va_iast hx hb hX.1 hP (gw_D hD _) hS 1 0 mw_now rfl hn1 dX9_lays_11 (fun H locs hP _ hS => ?_)
  rw [mw_set_now] at hP
  have e0 := Option.some.inj hf
  subst e0
  exact hret _ _ _ _ hP hS dX9_lays_12
def fX9_goesEmpty_2 (F : Nat) : Nat → (Nat → Int32) → Int32 → Option ((Nat → Int32))
  | 0, _, _ => none
  | n + 1, now, x1 => if (60 : Int32) ≤ x1 then (if (360 : Int32) < 0 ∨ 368 ≤ (360 : Int32).toNatClampNeg then none else (if (361 : Int32) < 0 ∨ 368 ≤ (361 : Int32).toNatClampNeg then none else (some (upd (upd now (360 : Int32).toNatClampNeg (-1 : Int32)) (361 : Int32).toNatClampNeg (0 : Int32))))) else ((fX9_lays F now x1 (0 : Int32) (-1 : Int32)).bind fun q4 => (fX9_goesEmpty_2 F n q4 (x1 + (1 : Int32))))
def fX9_goesEmpty (F : Nat) (now : Nat → Int32) : Option ((Nat → Int32)) := fX9_goesEmpty_2 F F now (0 : Int32)
abbrev rX9_goesEmpty : Room := { frames := 1, cells := 0, slots := 0, locals := 23 }
theorem wX9_goesEmpty : kV yX9_goesEmpty cX9_goesEmpty 2 none 0 := ⟨kCO_yX9_goesEmpty, kIM_yX9_goesEmpty, kSE_yX9_goesEmpty, kIN_RX9, by decide +kernel, by decide +kernel, by decide +kernel⟩
set_option maxHeartbeats 4000000 in
set_option maxRecDepth 100000 in
theorem tX9_goesEmpty {l : Launch} {D : va_G} {cI cZ : ClassId} {ad : Nat → Nat} (hD : gInj 15 ad) {F : Nat} {un sd : Int32} {now past images iseed kept order numof above pile aside fewest deep keys worths : Nat → Int32} {res : (Nat → Int32)} (hf : fX9_goesEmpty F now = some res) : CTv l yX9_goesEmpty cX9_goesEmpty 2 rX9_goesEmpty D (mTy cI cZ) (gA 15 ad) [.ref (ad 0)] (mw cI cZ ad un sd now past images iseed kept order numof above pile aside fewest deep keys worths) (mw cI cZ ad un sd res past images iseed kept order numof above pile aside fewest deep keys worths) := by
  refine ct_void (by decide) (Nat.le_of_ble_eq_true rfl) ?_
  intro p e s m args below meth c Q ls hx hb hml hown ht hX hret hP hS hl
  have hl : lv_has ls 2 [(0, .ref (ad 0))] := hl
  have blk2 : ∀ (n2 : Nat) (H : Heap) (locs : List Loc) (now : Nat → Int32) (x1 : Int32) (ls : Array Slot), va_P D vwCl (mw cI cZ ad un sd now past images iseed kept order numof above pile aside fewest deep keys worths) H → va_S (gA 15 ad) s.heap H locs → lv_has ls 2 [(0, .ref (ad 0)), (1, .int x1)] → fX9_goesEmpty_2 F n2 now x1 = some res → W p l e rX9_goesEmpty s m args below meth c H locs 0 0 Q (F0 m 2 ls []) := by
    intro n2
    induction n2 with
    | zero =>
      intro H locs now x1 ls hP hS hl hf
      rw [fX9_goesEmpty_2] at hf
      cases hf
    | succ n2 ih2 =>
      skip
      intro H locs now x1 ls hP hS hl hf
      rw [fX9_goesEmpty_2] at hf
      refine lv_iload_n hx hb dX9_goesEmpty_2 rfl (lv_at hl 1 rfl) ?_
      refine lv_bipush (v := (60 : Int32)) hx hb dX9_goesEmpty_3 (by decide) ?_
      refine lv_icmp_ge (tgt := 21) hx hb dX9_goesEmpty_5 (by decide) (fun hc1 => ?_) (fun hc1 => ?_)
      · rw [if_pos hc1] at hf
        refine lv_aload_n hx hb dX9_goesEmpty_21 rfl (lv_at hl 0 rfl) ?_
        refine va_get (ci := 7) (v := .ref (ad 1)) hx hb ht i_X9 hown hX.1 hP 0 mw_obj rfl 0 (by decide) (ht _ kFL_RX9_7) (fun _ h9 => h9) rfl dX9_goesEmpty_22 ?_
        refine lv_sipush (v := (360 : Int32)) hx hb dX9_goesEmpty_25 (by decide) ?_
        refine lv_iconst (v := (-1 : Int32)) hx hb dX9_goesEmpty_28 (by decide) ?_
        obtain ⟨hn2, hf⟩ := ngE _ hf
        refine va_iast hx hb hX.1 hP (gw_D hD _) hS 1 0 mw_now rfl hn2 dX9_goesEmpty_29 (fun H locs hP _ hS => ?_)
        rw [mw_set_now] at hP
        refine lv_aload_n hx hb dX9_goesEmpty_30 rfl (lv_at hl 0 rfl) ?_
        refine va_get (ci := 7) (v := .ref (ad 1)) hx hb ht i_X9 hown hX.1 hP 0 mw_obj rfl 0 (by decide) (ht _ kFL_RX9_7) (fun _ h9 => h9) rfl dX9_goesEmpty_31 ?_
        refine lv_sipush (v := (361 : Int32)) hx hb dX9_goesEmpty_34 (by decide) ?_
        refine lv_iconst (v := (0 : Int32)) hx hb dX9_goesEmpty_37 (by decide) ?_
        obtain ⟨hn3, hf⟩ := ngE _ hf
        refine va_iast hx hb hX.1 hP (gw_D hD _) hS 1 0 mw_now rfl hn3 dX9_goesEmpty_38 (fun H locs hP _ hS => ?_)
        rw [mw_set_now] at hP
        have e0 := Option.some.inj hf
        subst e0
        exact hret _ _ _ _ hP hS dX9_goesEmpty_39
      · rw [if_neg hc1] at hf
        refine lv_aload_n hx hb dX9_goesEmpty_8 rfl (lv_at hl 0 rfl) ?_
        refine lv_iload_n hx hb dX9_goesEmpty_9 rfl (lv_at hl 1 rfl) ?_
        refine lv_iconst (v := (0 : Int32)) hx hb dX9_goesEmpty_10 (by decide) ?_
        refine lv_iconst (v := (-1 : Int32)) hx hb dX9_goesEmpty_11 (by decide) ?_
        obtain ⟨q4, hq4, hf⟩ := obE hf
        refine ct_cVv (rest := []) (tX9_lays hD hq4) hx hb hml hown ht hX hP hS wX9_lays kML_RX9_56 rfl rfl ⟨Nat.le_of_ble_eq_true rfl, Nat.le_of_ble_eq_true rfl⟩ (va_recv hX.1 hP rfl mw_obj) rfl hl.1 rfl (Nat.le_of_ble_eq_true rfl) dX9_goesEmpty_12 (fun H locs hP hS => ?_)
        refine lv_iinc (v := x1 + (1 : Int32)) (lv' := [(1, .int (x1 + (1 : Int32))), (0, .ref (ad 0))]) hx hb dX9_goesEmpty_15 hl (k := 1) rfl rfl (by decide) rfl (fun ls hl => ?_)
        refine lv_goto (tgt := 2) hx hb dX9_goesEmpty_18 (by decide) ?_
        exact ih2 _ _ q4 (x1 + (1 : Int32)) ls hP hS (lv_sub hl [1, 0] rfl) hf
  unfold fX9_goesEmpty at hf
  refine lv_iconst (v := (0 : Int32)) hx hb dX9_goesEmpty_0 (by decide) ?_
  refine lv_istore_n (lv' := [(1, .int ((0 : Int32))), (0, .ref (ad 0))]) hx hb dX9_goesEmpty_1 rfl hl (by decide) rfl (fun ls hl => ?_)
  exact blk2 F _ _ now (0 : Int32) ls hP hS (lv_sub hl [1, 0] rfl) hf
def fX9_empties_2 (F : Nat) : Nat → (Nat → Int32) → Int32 → Option ((Nat → Int32))
  | 0, _, _ => none
  | n + 1, now, x1 => if (368 : Int32) ≤ x1 then ((fX9_goesEmpty F now).bind fun q2 => (some q2)) else (if x1 < 0 ∨ 368 ≤ x1.toNatClampNeg then none else (fX9_empties_2 F n (upd now x1.toNatClampNeg (0 : Int32)) (x1 + (1 : Int32))))
def fX9_empties (F : Nat) (now : Nat → Int32) : Option ((Nat → Int32)) := fX9_empties_2 F F now (0 : Int32)
abbrev rX9_empties : Room := { frames := 2, cells := 0, slots := 0, locals := 44 }
theorem wX9_empties : kV yX9_empties cX9_empties 2 none 0 := ⟨kCO_yX9_empties, kIM_yX9_empties, kSE_yX9_empties, kIN_RX9, by decide +kernel, by decide +kernel, by decide +kernel⟩
set_option maxHeartbeats 4000000 in
set_option maxRecDepth 100000 in
theorem tX9_empties {l : Launch} {D : va_G} {cI cZ : ClassId} {ad : Nat → Nat} (hD : gInj 15 ad) {F : Nat} {un sd : Int32} {now past images iseed kept order numof above pile aside fewest deep keys worths : Nat → Int32} {res : (Nat → Int32)} (hf : fX9_empties F now = some res) : CTv l yX9_empties cX9_empties 2 rX9_empties D (mTy cI cZ) (gA 15 ad) [.ref (ad 0)] (mw cI cZ ad un sd now past images iseed kept order numof above pile aside fewest deep keys worths) (mw cI cZ ad un sd res past images iseed kept order numof above pile aside fewest deep keys worths) := by
  refine ct_void (by decide) (Nat.le_of_ble_eq_true rfl) ?_
  intro p e s m args below meth c Q ls hx hb hml hown ht hX hret hP hS hl
  have hl : lv_has ls 2 [(0, .ref (ad 0))] := hl
  have blk2 : ∀ (n2 : Nat) (H : Heap) (locs : List Loc) (now : Nat → Int32) (x1 : Int32) (ls : Array Slot), va_P D vwCl (mw cI cZ ad un sd now past images iseed kept order numof above pile aside fewest deep keys worths) H → va_S (gA 15 ad) s.heap H locs → lv_has ls 2 [(0, .ref (ad 0)), (1, .int x1)] → fX9_empties_2 F n2 now x1 = some res → W p l e rX9_empties s m args below meth c H locs 0 0 Q (F0 m 2 ls []) := by
    intro n2
    induction n2 with
    | zero =>
      intro H locs now x1 ls hP hS hl hf
      rw [fX9_empties_2] at hf
      cases hf
    | succ n2 ih2 =>
      skip
      intro H locs now x1 ls hP hS hl hf
      rw [fX9_empties_2] at hf
      refine lv_iload_n hx hb dX9_empties_2 rfl (lv_at hl 1 rfl) ?_
      refine lv_sipush (v := (368 : Int32)) hx hb dX9_empties_3 (by decide) ?_
      refine lv_icmp_ge (tgt := 22) hx hb dX9_empties_6 (by decide) (fun hc1 => ?_) (fun hc1 => ?_)
      · rw [if_pos hc1] at hf
        refine lv_aload_n hx hb dX9_empties_22 rfl (lv_at hl 0 rfl) ?_
        obtain ⟨q2, hq2, hf⟩ := obE hf
        refine ct_cVv (rest := []) (tX9_goesEmpty hD hq2) hx hb hml hown ht hX hP hS wX9_goesEmpty kML_RX9_60 rfl rfl ⟨Nat.le_of_ble_eq_true rfl, Nat.le_of_ble_eq_true rfl⟩ (va_recv hX.1 hP rfl mw_obj) rfl hl.1 rfl (Nat.le_of_ble_eq_true rfl) dX9_empties_23 (fun H locs hP hS => ?_)
        have e0 := Option.some.inj hf
        subst e0
        exact hret _ _ _ _ hP hS dX9_empties_26
      · rw [if_neg hc1] at hf
        refine lv_aload_n hx hb dX9_empties_9 rfl (lv_at hl 0 rfl) ?_
        refine va_get (ci := 7) (v := .ref (ad 1)) hx hb ht i_X9 hown hX.1 hP 0 mw_obj rfl 0 (by decide) (ht _ kFL_RX9_7) (fun _ h9 => h9) rfl dX9_empties_10 ?_
        refine lv_iload_n hx hb dX9_empties_13 rfl (lv_at hl 1 rfl) ?_
        refine lv_iconst (v := (0 : Int32)) hx hb dX9_empties_14 (by decide) ?_
        obtain ⟨hn3, hf⟩ := ngE _ hf
        refine va_iast hx hb hX.1 hP (gw_D hD _) hS 1 0 mw_now rfl hn3 dX9_empties_15 (fun H locs hP _ hS => ?_)
        rw [mw_set_now] at hP
        refine lv_iinc (v := x1 + (1 : Int32)) (lv' := [(1, .int (x1 + (1 : Int32))), (0, .ref (ad 0))]) hx hb dX9_empties_16 hl (k := 1) rfl rfl (by decide) rfl (fun ls hl => ?_)
        refine lv_goto (tgt := 2) hx hb dX9_empties_19 (by decide) ?_
        exact ih2 _ _ (upd now x1.toNatClampNeg (0 : Int32)) (x1 + (1 : Int32)) ls hP hS (lv_sub hl [1, 0] rfl) hf
  unfold fX9_empties at hf
  refine lv_iconst (v := (0 : Int32)) hx hb dX9_empties_0 (by decide) ?_
  refine lv_istore_n (lv' := [(1, .int ((0 : Int32))), (0, .ref (ad 0))]) hx hb dX9_empties_1 rfl hl (by decide) rfl (fun ls hl => ?_)
  exact blk2 F _ _ now (0 : Int32) ls hP hS (lv_sub hl [1, 0] rfl) hf
def fX9_top (F : Nat) (now : Nat → Int32) : Option (Int32) := if (360 : Int32) < 0 ∨ 368 ≤ (360 : Int32).toNatClampNeg then none else (some (now (360 : Int32).toNatClampNeg))
abbrev rX9_top : Room := { frames := 0, cells := 0, slots := 0, locals := 0 }
theorem wX9_top : kV yX9_top cX9_top 1 (some .int) 0 := ⟨kCO_yX9_top, kIM_yX9_top, kSE_yX9_top, kIN_RX9, by decide +kernel, by decide +kernel, by decide +kernel⟩
set_option maxHeartbeats 4000000 in
set_option maxRecDepth 100000 in
theorem tX9_top {l : Launch} {D : va_G} {cI cZ : ClassId} {ad : Nat → Nat} (hD : gInj 15 ad) {F : Nat} {un sd : Int32} {now past images iseed kept order numof above pile aside fewest deep keys worths : Nat → Int32} {res : Int32} (hf : fX9_top F now = some res) : CTi l yX9_top cX9_top 1 .int rX9_top D (mTy cI cZ) (gA 15 ad) [.ref (ad 0)] (mw cI cZ ad un sd now past images iseed kept order numof above pile aside fewest deep keys worths) res (mw cI cZ ad un sd now past images iseed kept order numof above pile aside fewest deep keys worths) := by
  refine ct_int (by decide) (Nat.le_of_ble_eq_true rfl) ?_
  intro p e s m args below meth c Q ls hx hb hml hown ht hX hret hP hS hl
  have hl : lv_has ls 1 [(0, .ref (ad 0))] := hl
  unfold fX9_top at hf
  refine lv_aload_n hx hb dX9_top_0 rfl (lv_at hl 0 rfl) ?_
  refine va_get (ci := 7) (v := .ref (ad 1)) hx hb ht i_X9 hown hX.1 hP 0 mw_obj rfl 0 (by decide) (ht _ kFL_RX9_7) (fun _ h9 => h9) rfl dX9_top_1 ?_
  refine lv_sipush (v := (360 : Int32)) hx hb dX9_top_4 (by decide) ?_
  obtain ⟨hn1, hf⟩ := ngE _ hf
  refine va_iald hx hb hX.1 hP 1 0 mw_now rfl hn1 dX9_top_7 ?_
  have e0 := Option.some.inj hf
  subst e0
  exact hret _ _ _ _ hP hS dX9_top_8
def fX9_many (F : Nat) (now : Nat → Int32) : Option (Int32) := if (361 : Int32) < 0 ∨ 368 ≤ (361 : Int32).toNatClampNeg then none else (some (now (361 : Int32).toNatClampNeg))
abbrev rX9_many : Room := { frames := 0, cells := 0, slots := 0, locals := 0 }
theorem wX9_many : kV yX9_many cX9_many 1 (some .int) 0 := ⟨kCO_yX9_many, kIM_yX9_many, kSE_yX9_many, kIN_RX9, by decide +kernel, by decide +kernel, by decide +kernel⟩
set_option maxHeartbeats 4000000 in
set_option maxRecDepth 100000 in
theorem tX9_many {l : Launch} {D : va_G} {cI cZ : ClassId} {ad : Nat → Nat} (hD : gInj 15 ad) {F : Nat} {un sd : Int32} {now past images iseed kept order numof above pile aside fewest deep keys worths : Nat → Int32} {res : Int32} (hf : fX9_many F now = some res) : CTi l yX9_many cX9_many 1 .int rX9_many D (mTy cI cZ) (gA 15 ad) [.ref (ad 0)] (mw cI cZ ad un sd now past images iseed kept order numof above pile aside fewest deep keys worths) res (mw cI cZ ad un sd now past images iseed kept order numof above pile aside fewest deep keys worths) := by
  refine ct_int (by decide) (Nat.le_of_ble_eq_true rfl) ?_
  intro p e s m args below meth c Q ls hx hb hml hown ht hX hret hP hS hl
  have hl : lv_has ls 1 [(0, .ref (ad 0))] := hl
  unfold fX9_many at hf
  refine lv_aload_n hx hb dX9_many_0 rfl (lv_at hl 0 rfl) ?_
  refine va_get (ci := 7) (v := .ref (ad 1)) hx hb ht i_X9 hown hX.1 hP 0 mw_obj rfl 0 (by decide) (ht _ kFL_RX9_7) (fun _ h9 => h9) rfl dX9_many_1 ?_
  refine lv_sipush (v := (361 : Int32)) hx hb dX9_many_4 (by decide) ?_
  obtain ⟨hn1, hf⟩ := ngE _ hf
  refine va_iald hx hb hX.1 hP 1 0 mw_now rfl hn1 dX9_many_7 ?_
  have e0 := Option.some.inj hf
  subst e0
  exact hret _ _ _ _ hP hS dX9_many_8
def fX9_rankOf (F : Nat) (now : Nat → Int32) (x1 : Int32) : Option (Int32) := if x1 = (-1 : Int32) then (some (-1 : Int32)) else ((fX9_of F now x1 (2 : Int32)).bind fun q2 => (some q2))
abbrev rX9_rankOf : Room := { frames := 1, cells := 0, slots := 0, locals := 22 }
theorem wX9_rankOf : kV yX9_rankOf cX9_rankOf 2 (some .int) 1 := ⟨kCO_yX9_rankOf, kIM_yX9_rankOf, kSE_yX9_rankOf, kIN_RX9, by decide +kernel, by decide +kernel, by decide +kernel⟩
set_option maxHeartbeats 4000000 in
set_option maxRecDepth 100000 in
theorem tX9_rankOf {l : Launch} {D : va_G} {cI cZ : ClassId} {ad : Nat → Nat} (hD : gInj 15 ad) {F : Nat} {un sd : Int32} {now past images iseed kept order numof above pile aside fewest deep keys worths : Nat → Int32} {x1 : Int32} {res : Int32} (hf : fX9_rankOf F now x1 = some res) : CTi l yX9_rankOf cX9_rankOf 2 .int rX9_rankOf D (mTy cI cZ) (gA 15 ad) [.ref (ad 0), .int x1] (mw cI cZ ad un sd now past images iseed kept order numof above pile aside fewest deep keys worths) res (mw cI cZ ad un sd now past images iseed kept order numof above pile aside fewest deep keys worths) := by
  refine ct_int (by decide) (Nat.le_of_ble_eq_true rfl) ?_
  intro p e s m args below meth c Q ls hx hb hml hown ht hX hret hP hS hl
  have hl : lv_has ls 2 [(0, .ref (ad 0)), (1, .int x1)] := hl
  unfold fX9_rankOf at hf
  refine lv_iload_n hx hb dX9_rankOf_0 rfl (lv_at hl 1 rfl) ?_
  refine lv_iconst (v := (-1 : Int32)) hx hb dX9_rankOf_1 (by decide) ?_
  refine lv_icmp_ne (tgt := 9) hx hb dX9_rankOf_2 (by decide) (fun hc1 => ?_) (fun hc1 => ?_)
  · rw [if_neg hc1] at hf
    refine lv_aload_n hx hb dX9_rankOf_9 rfl (lv_at hl 0 rfl) ?_
    refine lv_iload_n hx hb dX9_rankOf_10 rfl (lv_at hl 1 rfl) ?_
    refine lv_iconst (v := (2 : Int32)) hx hb dX9_rankOf_11 (by decide) ?_
    obtain ⟨q2, hq2, hf⟩ := obE hf
    refine ct_cVi (rest := []) (tX9_of hD hq2) hx hb hml hown ht hX hP hS wX9_of kML_RX9_63 rfl rfl ⟨Nat.le_of_ble_eq_true rfl, Nat.le_of_ble_eq_true rfl⟩ (va_recv hX.1 hP rfl mw_obj) rfl hl.1 rfl (Nat.le_of_ble_eq_true rfl) dX9_rankOf_12 (fun H locs hP hS => ?_)
    have e0 := Option.some.inj hf
    subst e0
    exact hret _ _ _ _ hP hS dX9_rankOf_15
  · rw [if_pos hc1] at hf
    refine lv_iconst (v := (-1 : Int32)) hx hb dX9_rankOf_5 (by decide) ?_
    refine lv_goto (tgt := 15) hx hb dX9_rankOf_6 (by decide) ?_
    have e0 := Option.some.inj hf
    subst e0
    exact hret _ _ _ _ hP hS dX9_rankOf_15
def fX9_child (F : Nat) (now : Nat → Int32) (x1 : Int32) (x2 : Int32) : Option (Int32) := if x2 = 0 then ((fX9_of F now x1 (4 : Int32)).bind fun q2 => (some q2)) else ((fX9_of F now x1 (3 : Int32)).bind fun q3 => (some q3))
abbrev rX9_child : Room := { frames := 1, cells := 0, slots := 0, locals := 22 }
theorem wX9_child : kV yX9_child cX9_child 3 (some .int) 2 := ⟨kCO_yX9_child, kIM_yX9_child, kSE_yX9_child, kIN_RX9, by decide +kernel, by decide +kernel, by decide +kernel⟩
set_option maxHeartbeats 4000000 in
set_option maxRecDepth 100000 in
theorem tX9_child {l : Launch} {D : va_G} {cI cZ : ClassId} {ad : Nat → Nat} (hD : gInj 15 ad) {F : Nat} {un sd : Int32} {now past images iseed kept order numof above pile aside fewest deep keys worths : Nat → Int32} {x1 : Int32} {x2 : Int32} {res : Int32} (hf : fX9_child F now x1 x2 = some res) : CTi l yX9_child cX9_child 3 .int rX9_child D (mTy cI cZ) (gA 15 ad) [.ref (ad 0), .int x1, .int x2] (mw cI cZ ad un sd now past images iseed kept order numof above pile aside fewest deep keys worths) res (mw cI cZ ad un sd now past images iseed kept order numof above pile aside fewest deep keys worths) := by
  refine ct_int (by decide) (Nat.le_of_ble_eq_true rfl) ?_
  intro p e s m args below meth c Q ls hx hb hml hown ht hX hret hP hS hl
  have hl : lv_has ls 3 [(0, .ref (ad 0)), (1, .int x1), (2, .int x2)] := hl
  unfold fX9_child at hf
  refine lv_aload_n hx hb dX9_child_0 rfl (lv_at hl 0 rfl) ?_
  refine lv_iload_n hx hb dX9_child_1 rfl (lv_at hl 1 rfl) ?_
  refine lv_iload_n hx hb dX9_child_2 rfl (lv_at hl 2 rfl) ?_
  refine lv_if_eq (tgt := 10) hx hb dX9_child_3 (by decide) (fun hc1 => ?_) (fun hc1 => ?_)
  · rw [if_pos hc1] at hf
    refine lv_iconst (v := (4 : Int32)) hx hb dX9_child_10 (by decide) ?_
    obtain ⟨q2, hq2, hf⟩ := obE hf
    refine ct_cVi (rest := []) (tX9_of hD hq2) hx hb hml hown ht hX hP hS wX9_of kML_RX9_63 rfl rfl ⟨Nat.le_of_ble_eq_true rfl, Nat.le_of_ble_eq_true rfl⟩ (va_recv hX.1 hP rfl mw_obj) rfl hl.1 rfl (Nat.le_of_ble_eq_true rfl) dX9_child_11 (fun H locs hP hS => ?_)
    have e0 := Option.some.inj hf
    subst e0
    exact hret _ _ _ _ hP hS dX9_child_14
  · rw [if_neg hc1] at hf
    refine lv_iconst (v := (3 : Int32)) hx hb dX9_child_6 (by decide) ?_
    refine lv_goto (tgt := 11) hx hb dX9_child_7 (by decide) ?_
    obtain ⟨q3, hq3, hf⟩ := obE hf
    refine ct_cVi (rest := []) (tX9_of hD hq3) hx hb hml hown ht hX hP hS wX9_of kML_RX9_63 rfl rfl ⟨Nat.le_of_ble_eq_true rfl, Nat.le_of_ble_eq_true rfl⟩ (va_recv hX.1 hP rfl mw_obj) rfl hl.1 rfl (Nat.le_of_ble_eq_true rfl) dX9_child_11 (fun H locs hP hS => ?_)
    have e0 := Option.some.inj hf
    subst e0
    exact hret _ _ _ _ hP hS dX9_child_14
def fX9_isLeftOf (F : Nat) (now : Nat → Int32) (x1 : Int32) (x2 : Int32) : Option (Int32) := (fX9_of F now x1 (3 : Int32)).bind fun q1 => (if q1 = x2 then (some (1 : Int32)) else (some (0 : Int32)))
abbrev rX9_isLeftOf : Room := { frames := 1, cells := 0, slots := 0, locals := 22 }
theorem wX9_isLeftOf : kV yX9_isLeftOf cX9_isLeftOf 3 (some .boolean) 2 := ⟨kCO_yX9_isLeftOf, kIM_yX9_isLeftOf, kSE_yX9_isLeftOf, kIN_RX9, by decide +kernel, by decide +kernel, by decide +kernel⟩
set_option maxHeartbeats 4000000 in
set_option maxRecDepth 100000 in
theorem tX9_isLeftOf {l : Launch} {D : va_G} {cI cZ : ClassId} {ad : Nat → Nat} (hD : gInj 15 ad) {F : Nat} {un sd : Int32} {now past images iseed kept order numof above pile aside fewest deep keys worths : Nat → Int32} {x1 : Int32} {x2 : Int32} {res : Int32} (hf : fX9_isLeftOf F now x1 x2 = some res) : CTi l yX9_isLeftOf cX9_isLeftOf 3 .boolean rX9_isLeftOf D (mTy cI cZ) (gA 15 ad) [.ref (ad 0), .int x1, .int x2] (mw cI cZ ad un sd now past images iseed kept order numof above pile aside fewest deep keys worths) res (mw cI cZ ad un sd now past images iseed kept order numof above pile aside fewest deep keys worths) := by
  refine ct_bool (by decide) (Nat.le_of_ble_eq_true rfl) ?_
  intro p e s m args below meth c Q ls hx hb hml hown ht hX hret hP hS hl
  have hl : lv_has ls 3 [(0, .ref (ad 0)), (1, .int x1), (2, .int x2)] := hl
  unfold fX9_isLeftOf at hf
  refine lv_aload_n hx hb dX9_isLeftOf_0 rfl (lv_at hl 0 rfl) ?_
  refine lv_iload_n hx hb dX9_isLeftOf_1 rfl (lv_at hl 1 rfl) ?_
  refine lv_iconst (v := (3 : Int32)) hx hb dX9_isLeftOf_2 (by decide) ?_
  obtain ⟨q1, hq1, hf⟩ := obE hf
  refine ct_cVi (rest := []) (tX9_of hD hq1) hx hb hml hown ht hX hP hS wX9_of kML_RX9_63 rfl rfl ⟨Nat.le_of_ble_eq_true rfl, Nat.le_of_ble_eq_true rfl⟩ (va_recv hX.1 hP rfl mw_obj) rfl hl.1 rfl (Nat.le_of_ble_eq_true rfl) dX9_isLeftOf_3 (fun H locs hP hS => ?_)
  refine lv_iload_n hx hb dX9_isLeftOf_6 rfl (lv_at hl 2 rfl) ?_
  refine lv_icmp_ne (tgt := 14) hx hb dX9_isLeftOf_7 (by decide) (fun hc2 => ?_) (fun hc2 => ?_)
  · rw [if_neg hc2] at hf
    refine lv_iconst (v := (0 : Int32)) hx hb dX9_isLeftOf_14 (by decide) ?_
    have e0 := Option.some.inj hf
    subst e0
    exact hret _ _ _ _ (Or.inl rfl) hP hS dX9_isLeftOf_15
  · rw [if_pos hc2] at hf
    refine lv_iconst (v := (1 : Int32)) hx hb dX9_isLeftOf_10 (by decide) ?_
    refine lv_goto (tgt := 15) hx hb dX9_isLeftOf_11 (by decide) ?_
    have e0 := Option.some.inj hf
    subst e0
    exact hret _ _ _ _ (Or.inr rfl) hP hS dX9_isLeftOf_15
def fX9_hasNoChildren (F : Nat) (now : Nat → Int32) (x1 : Int32) : Option (Int32) := (fX9_of F now x1 (3 : Int32)).bind fun q1 => (if q1 = (-1 : Int32) then ((fX9_of F now x1 (4 : Int32)).bind fun q3 => (if q3 = (-1 : Int32) then (some (1 : Int32)) else (some (0 : Int32)))) else (some (0 : Int32)))
abbrev rX9_hasNoChildren : Room := { frames := 1, cells := 0, slots := 0, locals := 22 }
theorem wX9_hasNoChildren : kV yX9_hasNoChildren cX9_hasNoChildren 2 (some .boolean) 1 := ⟨kCO_yX9_hasNoChildren, kIM_yX9_hasNoChildren, kSE_yX9_hasNoChildren, kIN_RX9, by decide +kernel, by decide +kernel, by decide +kernel⟩
set_option maxHeartbeats 4000000 in
set_option maxRecDepth 100000 in
theorem tX9_hasNoChildren {l : Launch} {D : va_G} {cI cZ : ClassId} {ad : Nat → Nat} (hD : gInj 15 ad) {F : Nat} {un sd : Int32} {now past images iseed kept order numof above pile aside fewest deep keys worths : Nat → Int32} {x1 : Int32} {res : Int32} (hf : fX9_hasNoChildren F now x1 = some res) : CTi l yX9_hasNoChildren cX9_hasNoChildren 2 .boolean rX9_hasNoChildren D (mTy cI cZ) (gA 15 ad) [.ref (ad 0), .int x1] (mw cI cZ ad un sd now past images iseed kept order numof above pile aside fewest deep keys worths) res (mw cI cZ ad un sd now past images iseed kept order numof above pile aside fewest deep keys worths) := by
  refine ct_bool (by decide) (Nat.le_of_ble_eq_true rfl) ?_
  intro p e s m args below meth c Q ls hx hb hml hown ht hX hret hP hS hl
  have hl : lv_has ls 2 [(0, .ref (ad 0)), (1, .int x1)] := hl
  unfold fX9_hasNoChildren at hf
  refine lv_aload_n hx hb dX9_hasNoChildren_0 rfl (lv_at hl 0 rfl) ?_
  refine lv_iload_n hx hb dX9_hasNoChildren_1 rfl (lv_at hl 1 rfl) ?_
  refine lv_iconst (v := (3 : Int32)) hx hb dX9_hasNoChildren_2 (by decide) ?_
  obtain ⟨q1, hq1, hf⟩ := obE hf
  refine ct_cVi (rest := []) (tX9_of hD hq1) hx hb hml hown ht hX hP hS wX9_of kML_RX9_63 rfl rfl ⟨Nat.le_of_ble_eq_true rfl, Nat.le_of_ble_eq_true rfl⟩ (va_recv hX.1 hP rfl mw_obj) rfl hl.1 rfl (Nat.le_of_ble_eq_true rfl) dX9_hasNoChildren_3 (fun H locs hP hS => ?_)
  refine lv_iconst (v := (-1 : Int32)) hx hb dX9_hasNoChildren_6 (by decide) ?_
  refine lv_icmp_ne (tgt := 24) hx hb dX9_hasNoChildren_7 (by decide) (fun hc2 => ?_) (fun hc2 => ?_)
  · rw [if_neg hc2] at hf
    refine lv_iconst (v := (0 : Int32)) hx hb dX9_hasNoChildren_24 (by decide) ?_
    have e0 := Option.some.inj hf
    subst e0
    exact hret _ _ _ _ (Or.inl rfl) hP hS dX9_hasNoChildren_25
  · rw [if_pos hc2] at hf
    refine lv_aload_n hx hb dX9_hasNoChildren_10 rfl (lv_at hl 0 rfl) ?_
    refine lv_iload_n hx hb dX9_hasNoChildren_11 rfl (lv_at hl 1 rfl) ?_
    refine lv_iconst (v := (4 : Int32)) hx hb dX9_hasNoChildren_12 (by decide) ?_
    obtain ⟨q3, hq3, hf⟩ := obE hf
    refine ct_cVi (rest := []) (tX9_of hD hq3) hx hb hml hown ht hX hP hS wX9_of kML_RX9_63 rfl rfl ⟨Nat.le_of_ble_eq_true rfl, Nat.le_of_ble_eq_true rfl⟩ (va_recv hX.1 hP rfl mw_obj) rfl hl.1 rfl (Nat.le_of_ble_eq_true rfl) dX9_hasNoChildren_13 (fun H locs hP hS => ?_)
    refine lv_iconst (v := (-1 : Int32)) hx hb dX9_hasNoChildren_16 (by decide) ?_
    refine lv_icmp_ne (tgt := 24) hx hb dX9_hasNoChildren_17 (by decide) (fun hc4 => ?_) (fun hc4 => ?_)
    · rw [if_neg hc4] at hf
      refine lv_iconst (v := (0 : Int32)) hx hb dX9_hasNoChildren_24 (by decide) ?_
      have e0 := Option.some.inj hf
      subst e0
      exact hret _ _ _ _ (Or.inl rfl) hP hS dX9_hasNoChildren_25
    · rw [if_pos hc4] at hf
      refine lv_iconst (v := (1 : Int32)) hx hb dX9_hasNoChildren_20 (by decide) ?_
      refine lv_goto (tgt := 25) hx hb dX9_hasNoChildren_21 (by decide) ?_
      have e0 := Option.some.inj hf
      subst e0
      exact hret _ _ _ _ (Or.inr rfl) hP hS dX9_hasNoChildren_25
def fX9_counts (F : Nat) (now : Nat → Int32) (x1 : Int32) : Option ((Nat → Int32)) := if ((362 : Int32) + x1) < 0 ∨ 368 ≤ ((362 : Int32) + x1).toNatClampNeg then none else (if ((362 : Int32) + x1) < 0 ∨ 368 ≤ ((362 : Int32) + x1).toNatClampNeg then none else (if ((365 : Int32) + x1) < 0 ∨ 368 ≤ ((365 : Int32) + x1).toNatClampNeg then none else (if ((365 : Int32) + x1) < 0 ∨ 368 ≤ ((365 : Int32) + x1).toNatClampNeg then none else (some (upd (upd now ((362 : Int32) + x1).toNatClampNeg ((now ((362 : Int32) + x1).toNatClampNeg) + (1 : Int32))) ((365 : Int32) + x1).toNatClampNeg (((upd now ((362 : Int32) + x1).toNatClampNeg ((now ((362 : Int32) + x1).toNatClampNeg) + (1 : Int32))) ((365 : Int32) + x1).toNatClampNeg) + (1 : Int32)))))))
abbrev rX9_counts : Room := { frames := 0, cells := 0, slots := 0, locals := 0 }
theorem wX9_counts : kV yX9_counts cX9_counts 2 none 1 := ⟨kCO_yX9_counts, kIM_yX9_counts, kSE_yX9_counts, kIN_RX9, by decide +kernel, by decide +kernel, by decide +kernel⟩
set_option maxHeartbeats 4000000 in
set_option maxRecDepth 100000 in
theorem tX9_counts {l : Launch} {D : va_G} {cI cZ : ClassId} {ad : Nat → Nat} (hD : gInj 15 ad) {F : Nat} {un sd : Int32} {now past images iseed kept order numof above pile aside fewest deep keys worths : Nat → Int32} {x1 : Int32} {res : (Nat → Int32)} (hf : fX9_counts F now x1 = some res) : CTv l yX9_counts cX9_counts 2 rX9_counts D (mTy cI cZ) (gA 15 ad) [.ref (ad 0), .int x1] (mw cI cZ ad un sd now past images iseed kept order numof above pile aside fewest deep keys worths) (mw cI cZ ad un sd res past images iseed kept order numof above pile aside fewest deep keys worths) := by
  refine ct_void (by decide) (Nat.le_of_ble_eq_true rfl) ?_
  intro p e s m args below meth c Q ls hx hb hml hown ht hX hret hP hS hl
  have hl : lv_has ls 2 [(0, .ref (ad 0)), (1, .int x1)] := hl
  unfold fX9_counts at hf
  refine lv_aload_n hx hb dX9_counts_0 rfl (lv_at hl 0 rfl) ?_
  refine va_get (ci := 7) (v := .ref (ad 1)) hx hb ht i_X9 hown hX.1 hP 0 mw_obj rfl 0 (by decide) (ht _ kFL_RX9_7) (fun _ h9 => h9) rfl dX9_counts_1 ?_
  refine lv_sipush (v := (362 : Int32)) hx hb dX9_counts_4 (by decide) ?_
  refine lv_iload_n hx hb dX9_counts_7 rfl (lv_at hl 1 rfl) ?_
  refine lv_iadd hx hb dX9_counts_8 ?_
  refine lv_dup2_11 hx hb dX9_counts_9 rfl rfl ?_
  obtain ⟨hn1, hf⟩ := ngE _ hf
  refine va_iald hx hb hX.1 hP 1 0 mw_now rfl hn1 dX9_counts_10 ?_
  refine lv_iconst (v := (1 : Int32)) hx hb dX9_counts_11 (by decide) ?_
  refine lv_iadd hx hb dX9_counts_12 ?_
  obtain ⟨hn2, hf⟩ := ngE _ hf
  refine va_iast hx hb hX.1 hP (gw_D hD _) hS 1 0 mw_now rfl hn2 dX9_counts_13 (fun H locs hP _ hS => ?_)
  rw [mw_set_now] at hP
  refine lv_aload_n hx hb dX9_counts_14 rfl (lv_at hl 0 rfl) ?_
  refine va_get (ci := 7) (v := .ref (ad 1)) hx hb ht i_X9 hown hX.1 hP 0 mw_obj rfl 0 (by decide) (ht _ kFL_RX9_7) (fun _ h9 => h9) rfl dX9_counts_15 ?_
  refine lv_sipush (v := (365 : Int32)) hx hb dX9_counts_18 (by decide) ?_
  refine lv_iload_n hx hb dX9_counts_21 rfl (lv_at hl 1 rfl) ?_
  refine lv_iadd hx hb dX9_counts_22 ?_
  refine lv_dup2_11 hx hb dX9_counts_23 rfl rfl ?_
  obtain ⟨hn3, hf⟩ := ngE _ hf
  refine va_iald hx hb hX.1 hP 1 0 mw_now rfl hn3 dX9_counts_24 ?_
  refine lv_iconst (v := (1 : Int32)) hx hb dX9_counts_25 (by decide) ?_
  refine lv_iadd hx hb dX9_counts_26 ?_
  obtain ⟨hn4, hf⟩ := ngE _ hf
  refine va_iast hx hb hX.1 hP (gw_D hD _) hS 1 0 mw_now rfl hn4 dX9_counts_27 (fun H locs hP _ hS => ?_)
  rw [mw_set_now] at hP
  have e0 := Option.some.inj hf
  subst e0
  exact hret _ _ _ _ hP hS dX9_counts_28
def fX9_begins_2 (F : Nat) : Nat → (Nat → Int32) → Int32 → Option ((Nat → Int32))
  | 0, _, _ => none
  | n + 1, now, x1 => if (3 : Int32) ≤ x1 then (some now) else (if ((365 : Int32) + x1) < 0 ∨ 368 ≤ ((365 : Int32) + x1).toNatClampNeg then none else (fX9_begins_2 F n (upd now ((365 : Int32) + x1).toNatClampNeg (0 : Int32)) (x1 + (1 : Int32))))
def fX9_begins (F : Nat) (now : Nat → Int32) : Option ((Nat → Int32)) := fX9_begins_2 F F now (0 : Int32)
abbrev rX9_begins : Room := { frames := 0, cells := 0, slots := 0, locals := 0 }
theorem wX9_begins : kV yX9_begins cX9_begins 2 none 0 := ⟨kCO_yX9_begins, kIM_yX9_begins, kSE_yX9_begins, kIN_RX9, by decide +kernel, by decide +kernel, by decide +kernel⟩
set_option maxHeartbeats 4000000 in
set_option maxRecDepth 100000 in
theorem tX9_begins {l : Launch} {D : va_G} {cI cZ : ClassId} {ad : Nat → Nat} (hD : gInj 15 ad) {F : Nat} {un sd : Int32} {now past images iseed kept order numof above pile aside fewest deep keys worths : Nat → Int32} {res : (Nat → Int32)} (hf : fX9_begins F now = some res) : CTv l yX9_begins cX9_begins 2 rX9_begins D (mTy cI cZ) (gA 15 ad) [.ref (ad 0)] (mw cI cZ ad un sd now past images iseed kept order numof above pile aside fewest deep keys worths) (mw cI cZ ad un sd res past images iseed kept order numof above pile aside fewest deep keys worths) := by
  refine ct_void (by decide) (Nat.le_of_ble_eq_true rfl) ?_
  intro p e s m args below meth c Q ls hx hb hml hown ht hX hret hP hS hl
  have hl : lv_has ls 2 [(0, .ref (ad 0))] := hl
  have blk2 : ∀ (n2 : Nat) (H : Heap) (locs : List Loc) (now : Nat → Int32) (x1 : Int32) (ls : Array Slot), va_P D vwCl (mw cI cZ ad un sd now past images iseed kept order numof above pile aside fewest deep keys worths) H → va_S (gA 15 ad) s.heap H locs → lv_has ls 2 [(0, .ref (ad 0)), (1, .int x1)] → fX9_begins_2 F n2 now x1 = some res → W p l e rX9_begins s m args below meth c H locs 0 0 Q (F0 m 2 ls []) := by
    intro n2
    induction n2 with
    | zero =>
      intro H locs now x1 ls hP hS hl hf
      rw [fX9_begins_2] at hf
      cases hf
    | succ n2 ih2 =>
      skip
      intro H locs now x1 ls hP hS hl hf
      rw [fX9_begins_2] at hf
      refine lv_iload_n hx hb dX9_begins_2 rfl (lv_at hl 1 rfl) ?_
      refine lv_iconst (v := (3 : Int32)) hx hb dX9_begins_3 (by decide) ?_
      refine lv_icmp_ge (tgt := 24) hx hb dX9_begins_4 (by decide) (fun hc1 => ?_) (fun hc1 => ?_)
      · rw [if_pos hc1] at hf
        have e0 := Option.some.inj hf
        subst e0
        exact hret _ _ _ _ hP hS dX9_begins_24
      · rw [if_neg hc1] at hf
        refine lv_aload_n hx hb dX9_begins_7 rfl (lv_at hl 0 rfl) ?_
        refine va_get (ci := 7) (v := .ref (ad 1)) hx hb ht i_X9 hown hX.1 hP 0 mw_obj rfl 0 (by decide) (ht _ kFL_RX9_7) (fun _ h9 => h9) rfl dX9_begins_8 ?_
        refine lv_sipush (v := (365 : Int32)) hx hb dX9_begins_11 (by decide) ?_
        refine lv_iload_n hx hb dX9_begins_14 rfl (lv_at hl 1 rfl) ?_
        refine lv_iadd hx hb dX9_begins_15 ?_
        refine lv_iconst (v := (0 : Int32)) hx hb dX9_begins_16 (by decide) ?_
        obtain ⟨hn2, hf⟩ := ngE _ hf
        refine va_iast hx hb hX.1 hP (gw_D hD _) hS 1 0 mw_now rfl hn2 dX9_begins_17 (fun H locs hP _ hS => ?_)
        rw [mw_set_now] at hP
        refine lv_iinc (v := x1 + (1 : Int32)) (lv' := [(1, .int (x1 + (1 : Int32))), (0, .ref (ad 0))]) hx hb dX9_begins_18 hl (k := 1) rfl rfl (by decide) rfl (fun ls hl => ?_)
        refine lv_goto (tgt := 2) hx hb dX9_begins_21 (by decide) ?_
        exact ih2 _ _ (upd now ((365 : Int32) + x1).toNatClampNeg (0 : Int32)) (x1 + (1 : Int32)) ls hP hS (lv_sub hl [1, 0] rfl) hf
  unfold fX9_begins at hf
  refine lv_iconst (v := (0 : Int32)) hx hb dX9_begins_0 (by decide) ?_
  refine lv_istore_n (lv' := [(1, .int ((0 : Int32))), (0, .ref (ad 0))]) hx hb dX9_begins_1 rfl hl (by decide) rfl (fun ls hl => ?_)
  exact blk2 F _ _ now (0 : Int32) ls hP hS (lv_sub hl [1, 0] rfl) hf
def fX9_hangs_32 (F : Nat) (now : Nat → Int32) (x1 : Int32) (x3 : Int32) : Option ((Nat → Int32)) := if x3 = (-1 : Int32) then (some now) else ((fX9_lays F now x3 (5 : Int32) x1).bind fun q6 => (some q6))
def fX9_hangs_28 (F : Nat) (now : Nat → Int32) (x1 : Int32) (x3 : Int32) (y1 : Int32) (y2 : Int32) : Option ((Nat → Int32)) := (fX9_lays F now y1 y2 x3).bind fun q4 => (fX9_hangs_32 F q4 x1 x3)
def fX9_hangs (F : Nat) (now : Nat → Int32) (x1 : Int32) (x2 : Int32) (x3 : Int32) : Option ((Nat → Int32)) := if x1 = (-1 : Int32) then (if (360 : Int32) < 0 ∨ 368 ≤ (360 : Int32).toNatClampNeg then none else (fX9_hangs_32 F (upd now (360 : Int32).toNatClampNeg x3) x1 x3)) else (if x2 = 0 then (fX9_hangs_28 F now x1 x3 x1 (4 : Int32)) else (fX9_hangs_28 F now x1 x3 x1 (3 : Int32)))
abbrev rX9_hangs : Room := { frames := 1, cells := 0, slots := 0, locals := 23 }
theorem wX9_hangs : kV yX9_hangs cX9_hangs 4 none 3 := ⟨kCO_yX9_hangs, kIM_yX9_hangs, kSE_yX9_hangs, kIN_RX9, by decide +kernel, by decide +kernel, by decide +kernel⟩
set_option maxHeartbeats 4000000 in
set_option maxRecDepth 100000 in
theorem tX9_hangs {l : Launch} {D : va_G} {cI cZ : ClassId} {ad : Nat → Nat} (hD : gInj 15 ad) {F : Nat} {un sd : Int32} {now past images iseed kept order numof above pile aside fewest deep keys worths : Nat → Int32} {x1 : Int32} {x2 : Int32} {x3 : Int32} {res : (Nat → Int32)} (hf : fX9_hangs F now x1 x2 x3 = some res) : CTv l yX9_hangs cX9_hangs 4 rX9_hangs D (mTy cI cZ) (gA 15 ad) [.ref (ad 0), .int x1, .int x2, .int x3] (mw cI cZ ad un sd now past images iseed kept order numof above pile aside fewest deep keys worths) (mw cI cZ ad un sd res past images iseed kept order numof above pile aside fewest deep keys worths) := by
  refine ct_void (by decide) (Nat.le_of_ble_eq_true rfl) ?_
  intro p e s m args below meth c Q ls hx hb hml hown ht hX hret hP hS hl
  have hl : lv_has ls 4 [(0, .ref (ad 0)), (1, .int x1), (2, .int x2), (3, .int x3)] := hl
  have blk32 : ∀ (H : Heap) (locs : List Loc) (now : Nat → Int32) (x1 : Int32) (x3 : Int32) (ls : Array Slot), va_P D vwCl (mw cI cZ ad un sd now past images iseed kept order numof above pile aside fewest deep keys worths) H → va_S (gA 15 ad) s.heap H locs → lv_has ls 4 [(0, .ref (ad 0)), (1, .int x1), (3, .int x3)] → fX9_hangs_32 F now x1 x3 = some res → W p l e rX9_hangs s m args below meth c H locs 0 0 Q (F0 m 32 ls []) := by
    intro H locs now x1 x3 ls hP hS hl hf
    unfold fX9_hangs_32 at hf
    refine lv_iload_n hx hb dX9_hangs_32 rfl (lv_at hl 2 rfl) ?_
    refine lv_iconst (v := (-1 : Int32)) hx hb dX9_hangs_33 (by decide) ?_
    refine lv_icmp_eq (tgt := 44) hx hb dX9_hangs_34 (by decide) (fun hc5 => ?_) (fun hc5 => ?_)
    · rw [if_pos hc5] at hf
      have e0 := Option.some.inj hf
      subst e0
      exact hret _ _ _ _ hP hS dX9_hangs_44
    · rw [if_neg hc5] at hf
      refine lv_aload_n hx hb dX9_hangs_37 rfl (lv_at hl 0 rfl) ?_
      refine lv_iload_n hx hb dX9_hangs_38 rfl (lv_at hl 2 rfl) ?_
      refine lv_iconst (v := (5 : Int32)) hx hb dX9_hangs_39 (by decide) ?_
      refine lv_iload_n hx hb dX9_hangs_40 rfl (lv_at hl 1 rfl) ?_
      obtain ⟨q6, hq6, hf⟩ := obE hf
      refine ct_cVv (rest := []) (tX9_lays hD hq6) hx hb hml hown ht hX hP hS wX9_lays kML_RX9_56 rfl rfl ⟨Nat.le_of_ble_eq_true rfl, Nat.le_of_ble_eq_true rfl⟩ (va_recv hX.1 hP rfl mw_obj) rfl hl.1 rfl (Nat.le_of_ble_eq_true rfl) dX9_hangs_41 (fun H locs hP hS => ?_)
      have e0 := Option.some.inj hf
      subst e0
      exact hret _ _ _ _ hP hS dX9_hangs_44
  have blk28 : ∀ (H : Heap) (locs : List Loc) (now : Nat → Int32) (x1 : Int32) (x3 : Int32) (y1 : Int32) (y2 : Int32) (ls : Array Slot), va_P D vwCl (mw cI cZ ad un sd now past images iseed kept order numof above pile aside fewest deep keys worths) H → va_S (gA 15 ad) s.heap H locs → lv_has ls 4 [(0, .ref (ad 0)), (1, .int x1), (3, .int x3)] → fX9_hangs_28 F now x1 x3 y1 y2 = some res → W p l e rX9_hangs s m args below meth c H locs 0 0 Q (F0 m 28 ls [.int y2, .int y1, .ref (ad 0)]) := by
    intro H locs now x1 x3 y1 y2 ls hP hS hl hf
    unfold fX9_hangs_28 at hf
    refine lv_iload_n hx hb dX9_hangs_28 rfl (lv_at hl 2 rfl) ?_
    obtain ⟨q4, hq4, hf⟩ := obE hf
    refine ct_cVv (rest := []) (tX9_lays hD hq4) hx hb hml hown ht hX hP hS wX9_lays kML_RX9_56 rfl rfl ⟨Nat.le_of_ble_eq_true rfl, Nat.le_of_ble_eq_true rfl⟩ (va_recv hX.1 hP rfl mw_obj) rfl hl.1 rfl (Nat.le_of_ble_eq_true rfl) dX9_hangs_29 (fun H locs hP hS => ?_)
    exact blk32 _ _ q4 x1 x3 ls hP hS (lv_sub hl [0, 1, 2] rfl) hf
  unfold fX9_hangs at hf
  refine lv_iload_n hx hb dX9_hangs_0 rfl (lv_at hl 1 rfl) ?_
  refine lv_iconst (v := (-1 : Int32)) hx hb dX9_hangs_1 (by decide) ?_
  refine lv_icmp_ne (tgt := 17) hx hb dX9_hangs_2 (by decide) (fun hc1 => ?_) (fun hc1 => ?_)
  · rw [if_neg hc1] at hf
    refine lv_aload_n hx hb dX9_hangs_17 rfl (lv_at hl 0 rfl) ?_
    refine lv_iload_n hx hb dX9_hangs_18 rfl (lv_at hl 1 rfl) ?_
    refine lv_iload_n hx hb dX9_hangs_19 rfl (lv_at hl 2 rfl) ?_
    refine lv_if_eq (tgt := 27) hx hb dX9_hangs_20 (by decide) (fun hc2 => ?_) (fun hc2 => ?_)
    · rw [if_pos hc2] at hf
      refine lv_iconst (v := (4 : Int32)) hx hb dX9_hangs_27 (by decide) ?_
      exact blk28 _ _ now x1 x3 x1 (4 : Int32) ls hP hS (lv_sub hl [0, 1, 3] rfl) hf
    · rw [if_neg hc2] at hf
      refine lv_iconst (v := (3 : Int32)) hx hb dX9_hangs_23 (by decide) ?_
      refine lv_goto (tgt := 28) hx hb dX9_hangs_24 (by decide) ?_
      exact blk28 _ _ now x1 x3 x1 (3 : Int32) ls hP hS (lv_sub hl [0, 1, 3] rfl) hf
  · rw [if_pos hc1] at hf
    refine lv_aload_n hx hb dX9_hangs_5 rfl (lv_at hl 0 rfl) ?_
    refine va_get (ci := 7) (v := .ref (ad 1)) hx hb ht i_X9 hown hX.1 hP 0 mw_obj rfl 0 (by decide) (ht _ kFL_RX9_7) (fun _ h9 => h9) rfl dX9_hangs_6 ?_
    refine lv_sipush (v := (360 : Int32)) hx hb dX9_hangs_9 (by decide) ?_
    refine lv_iload_n hx hb dX9_hangs_12 rfl (lv_at hl 3 rfl) ?_
    obtain ⟨hn3, hf⟩ := ngE _ hf
    refine va_iast hx hb hX.1 hP (gw_D hD _) hS 1 0 mw_now rfl hn3 dX9_hangs_13 (fun H locs hP _ hS => ?_)
    rw [mw_set_now] at hP
    refine lv_goto (tgt := 32) hx hb dX9_hangs_14 (by decide) ?_
    exact blk32 _ _ (upd now (360 : Int32).toNatClampNeg x3) x1 x3 ls hP hS (lv_sub hl [0, 1, 3] rfl) hf
def fX9_turns_81 (F : Nat) (now : Nat → Int32) (x1 : Int32) (x2 : Int32) (x3 : Int32) (x5 : Int32) (y1 : Int32) (y2 : Int32) : Option ((Nat → Int32)) := (fX9_hangs F now y1 y2 x2).bind fun q11 => ((fX9_hangs F q11 x3 x5 x1).bind fun q12 => ((fX9_counts F q12 (2 : Int32)).bind fun q13 => (some q13)))
def fX9_turns_55 (F : Nat) (now : Nat → Int32) (x1 : Int32) (x2 : Int32) (x3 : Int32) (x4 : Int32) (x5 : Int32) (y1 : Int32) (y2 : Int32) : Option ((Nat → Int32)) := (fX9_child F now y1 y2).bind fun q8 => ((fX9_hangs F now x2 x4 q8).bind fun q9 => (if x4 = 0 then (fX9_turns_81 F q9 x1 x2 x3 x5 x1 (1 : Int32)) else (fX9_turns_81 F q9 x1 x2 x3 x5 x1 (0 : Int32))))
def fX9_turns_41 (F : Nat) (now : Nat → Int32) (x1 : Int32) (x2 : Int32) (x3 : Int32) (x4 : Int32) (y0 : Int32) : Option ((Nat → Int32)) := if x4 = 0 then (fX9_turns_55 F now x1 x2 x3 x4 y0 x1 (1 : Int32)) else (fX9_turns_55 F now x1 x2 x3 x4 y0 x1 (0 : Int32))
def fX9_turns_40 (F : Nat) (now : Nat → Int32) (x1 : Int32) (x2 : Int32) (x3 : Int32) (x4 : Int32) : Option ((Nat → Int32)) := fX9_turns_41 F now x1 x2 x3 x4 (0 : Int32)
def fX9_turns (F : Nat) (now : Nat → Int32) (x1 : Int32) : Option ((Nat → Int32)) := (fX9_of F now x1 (5 : Int32)).bind fun q1 => ((fX9_of F now q1 (5 : Int32)).bind fun q2 => ((fX9_isLeftOf F now q1 x1).bind fun q3 => (if q2 = (-1 : Int32) then (fX9_turns_40 F now x1 q1 q2 q3) else ((fX9_isLeftOf F now q2 q1).bind fun q5 => (if q5 = 0 then (fX9_turns_40 F now x1 q1 q2 q3) else (fX9_turns_41 F now x1 q1 q2 q3 (1 : Int32)))))))
abbrev rX9_turns : Room := { frames := 2, cells := 0, slots := 0, locals := 46 }
theorem wX9_turns : kV yX9_turns cX9_turns 7 none 1 := ⟨kCO_yX9_turns, kIM_yX9_turns, kSE_yX9_turns, kIN_RX9, by decide +kernel, by decide +kernel, by decide +kernel⟩
set_option maxHeartbeats 4000000 in
set_option maxRecDepth 100000 in
theorem tX9_turns {l : Launch} {D : va_G} {cI cZ : ClassId} {ad : Nat → Nat} (hD : gInj 15 ad) {F : Nat} {un sd : Int32} {now past images iseed kept order numof above pile aside fewest deep keys worths : Nat → Int32} {x1 : Int32} {res : (Nat → Int32)} (hf : fX9_turns F now x1 = some res) : CTv l yX9_turns cX9_turns 7 rX9_turns D (mTy cI cZ) (gA 15 ad) [.ref (ad 0), .int x1] (mw cI cZ ad un sd now past images iseed kept order numof above pile aside fewest deep keys worths) (mw cI cZ ad un sd res past images iseed kept order numof above pile aside fewest deep keys worths) := by
  refine ct_void (by decide) (Nat.le_of_ble_eq_true rfl) ?_
  intro p e s m args below meth c Q ls hx hb hml hown ht hX hret hP hS hl
  have hl : lv_has ls 7 [(0, .ref (ad 0)), (1, .int x1)] := hl
  have blk81 : ∀ (H : Heap) (locs : List Loc) (now : Nat → Int32) (x1 : Int32) (x2 : Int32) (x3 : Int32) (x5 : Int32) (y1 : Int32) (y2 : Int32) (ls : Array Slot), va_P D vwCl (mw cI cZ ad un sd now past images iseed kept order numof above pile aside fewest deep keys worths) H → va_S (gA 15 ad) s.heap H locs → lv_has ls 7 [(0, .ref (ad 0)), (1, .int x1), (2, .int x2), (3, .int x3), (5, .int x5)] → fX9_turns_81 F now x1 x2 x3 x5 y1 y2 = some res → W p l e rX9_turns s m args below meth c H locs 0 0 Q (F0 m 81 ls [.int y2, .int y1, .ref (ad 0)]) := by
    intro H locs now x1 x2 x3 x5 y1 y2 ls hP hS hl hf
    unfold fX9_turns_81 at hf
    refine lv_iload_n hx hb dX9_turns_81 rfl (lv_at hl 2 rfl) ?_
    obtain ⟨q11, hq11, hf⟩ := obE hf
    refine ct_cVv (rest := []) (tX9_hangs hD hq11) hx hb hml hown ht hX hP hS wX9_hangs kML_RX9_75 rfl rfl ⟨Nat.le_of_ble_eq_true rfl, Nat.le_of_ble_eq_true rfl⟩ (va_recv hX.1 hP rfl mw_obj) rfl hl.1 rfl (Nat.le_of_ble_eq_true rfl) dX9_turns_82 (fun H locs hP hS => ?_)
    refine lv_aload_n hx hb dX9_turns_85 rfl (lv_at hl 0 rfl) ?_
    refine lv_iload_n hx hb dX9_turns_86 rfl (lv_at hl 3 rfl) ?_
    refine lv_iload hx hb dX9_turns_87 (lv_at hl 4 rfl) ?_
    refine lv_iload_n hx hb dX9_turns_89 rfl (lv_at hl 1 rfl) ?_
    obtain ⟨q12, hq12, hf⟩ := obE hf
    refine ct_cVv (rest := []) (tX9_hangs hD hq12) hx hb hml hown ht hX hP hS wX9_hangs kML_RX9_75 rfl rfl ⟨Nat.le_of_ble_eq_true rfl, Nat.le_of_ble_eq_true rfl⟩ (va_recv hX.1 hP rfl mw_obj) rfl hl.1 rfl (Nat.le_of_ble_eq_true rfl) dX9_turns_90 (fun H locs hP hS => ?_)
    refine lv_aload_n hx hb dX9_turns_93 rfl (lv_at hl 0 rfl) ?_
    refine lv_iconst (v := (2 : Int32)) hx hb dX9_turns_94 (by decide) ?_
    obtain ⟨q13, hq13, hf⟩ := obE hf
    refine ct_cVv (rest := []) (tX9_counts hD hq13) hx hb hml hown ht hX hP hS wX9_counts kML_RX9_79 rfl rfl ⟨Nat.le_of_ble_eq_true rfl, Nat.le_of_ble_eq_true rfl⟩ (va_recv hX.1 hP rfl mw_obj) rfl hl.1 rfl (Nat.le_of_ble_eq_true rfl) dX9_turns_95 (fun H locs hP hS => ?_)
    have e0 := Option.some.inj hf
    subst e0
    exact hret _ _ _ _ hP hS dX9_turns_98
  have blk55 : ∀ (H : Heap) (locs : List Loc) (now : Nat → Int32) (x1 : Int32) (x2 : Int32) (x3 : Int32) (x4 : Int32) (x5 : Int32) (y1 : Int32) (y2 : Int32) (ls : Array Slot), va_P D vwCl (mw cI cZ ad un sd now past images iseed kept order numof above pile aside fewest deep keys worths) H → va_S (gA 15 ad) s.heap H locs → lv_has ls 7 [(0, .ref (ad 0)), (1, .int x1), (2, .int x2), (3, .int x3), (4, .int x4), (5, .int x5)] → fX9_turns_55 F now x1 x2 x3 x4 x5 y1 y2 = some res → W p l e rX9_turns s m args below meth c H locs 0 0 Q (F0 m 55 ls [.int y2, .int y1, .ref (ad 0)]) := by
    intro H locs now x1 x2 x3 x4 x5 y1 y2 ls hP hS hl hf
    unfold fX9_turns_55 at hf
    obtain ⟨q8, hq8, hf⟩ := obE hf
    refine ct_cVi (rest := []) (tX9_child hD hq8) hx hb hml hown ht hX hP hS wX9_child kML_RX9_71 rfl rfl ⟨Nat.le_of_ble_eq_true rfl, Nat.le_of_ble_eq_true rfl⟩ (va_recv hX.1 hP rfl mw_obj) rfl hl.1 rfl (Nat.le_of_ble_eq_true rfl) dX9_turns_55 (fun H locs hP hS => ?_)
    refine lv_istore (lv' := [(6, .int q8), (0, .ref (ad 0)), (1, .int x1), (2, .int x2), (3, .int x3), (4, .int x4), (5, .int x5)]) hx hb dX9_turns_58 hl (by decide) rfl (fun ls hl => ?_)
    refine lv_aload_n hx hb dX9_turns_60 rfl (lv_at hl 1 rfl) ?_
    refine lv_iload_n hx hb dX9_turns_61 rfl (lv_at hl 3 rfl) ?_
    refine lv_iload hx hb dX9_turns_62 (lv_at hl 5 rfl) ?_
    refine lv_iload hx hb dX9_turns_64 (lv_at hl 0 rfl) ?_
    obtain ⟨q9, hq9, hf⟩ := obE hf
    refine ct_cVv (rest := []) (tX9_hangs hD hq9) hx hb hml hown ht hX hP hS wX9_hangs kML_RX9_75 rfl rfl ⟨Nat.le_of_ble_eq_true rfl, Nat.le_of_ble_eq_true rfl⟩ (va_recv hX.1 hP rfl mw_obj) rfl hl.1 rfl (Nat.le_of_ble_eq_true rfl) dX9_turns_66 (fun H locs hP hS => ?_)
    refine lv_aload_n hx hb dX9_turns_69 rfl (lv_at hl 1 rfl) ?_
    refine lv_iload_n hx hb dX9_turns_70 rfl (lv_at hl 2 rfl) ?_
    refine lv_iload hx hb dX9_turns_71 (lv_at hl 5 rfl) ?_
    refine lv_if_ne (tgt := 80) hx hb dX9_turns_73 (by decide) (fun hc10 => ?_) (fun hc10 => ?_)
    · rw [if_neg hc10] at hf
      refine lv_iconst (v := (0 : Int32)) hx hb dX9_turns_80 (by decide) ?_
      exact blk81 _ _ q9 x1 x2 x3 x5 x1 (0 : Int32) ls hP hS (lv_sub hl [1, 2, 3, 4, 6] rfl) hf
    · rw [if_pos hc10] at hf
      refine lv_iconst (v := (1 : Int32)) hx hb dX9_turns_76 (by decide) ?_
      refine lv_goto (tgt := 81) hx hb dX9_turns_77 (by decide) ?_
      exact blk81 _ _ q9 x1 x2 x3 x5 x1 (1 : Int32) ls hP hS (lv_sub hl [1, 2, 3, 4, 6] rfl) hf
  have blk41 : ∀ (H : Heap) (locs : List Loc) (now : Nat → Int32) (x1 : Int32) (x2 : Int32) (x3 : Int32) (x4 : Int32) (y0 : Int32) (ls : Array Slot), va_P D vwCl (mw cI cZ ad un sd now past images iseed kept order numof above pile aside fewest deep keys worths) H → va_S (gA 15 ad) s.heap H locs → lv_has ls 7 [(0, .ref (ad 0)), (1, .int x1), (2, .int x2), (3, .int x3), (4, .int x4)] → fX9_turns_41 F now x1 x2 x3 x4 y0 = some res → W p l e rX9_turns s m args below meth c H locs 0 0 Q (F0 m 41 ls [.int y0]) := by
    intro H locs now x1 x2 x3 x4 y0 ls hP hS hl hf
    unfold fX9_turns_41 at hf
    refine lv_istore (lv' := [(5, .int y0), (0, .ref (ad 0)), (1, .int x1), (2, .int x2), (3, .int x3), (4, .int x4)]) hx hb dX9_turns_41 hl (by decide) rfl (fun ls hl => ?_)
    refine lv_aload_n hx hb dX9_turns_43 rfl (lv_at hl 1 rfl) ?_
    refine lv_iload_n hx hb dX9_turns_44 rfl (lv_at hl 2 rfl) ?_
    refine lv_iload hx hb dX9_turns_45 (lv_at hl 5 rfl) ?_
    refine lv_if_ne (tgt := 54) hx hb dX9_turns_47 (by decide) (fun hc7 => ?_) (fun hc7 => ?_)
    · rw [if_neg hc7] at hf
      refine lv_iconst (v := (0 : Int32)) hx hb dX9_turns_54 (by decide) ?_
      exact blk55 _ _ now x1 x2 x3 x4 y0 x1 (0 : Int32) ls hP hS (lv_sub hl [1, 2, 3, 4, 5, 0] rfl) hf
    · rw [if_pos hc7] at hf
      refine lv_iconst (v := (1 : Int32)) hx hb dX9_turns_50 (by decide) ?_
      refine lv_goto (tgt := 55) hx hb dX9_turns_51 (by decide) ?_
      exact blk55 _ _ now x1 x2 x3 x4 y0 x1 (1 : Int32) ls hP hS (lv_sub hl [1, 2, 3, 4, 5, 0] rfl) hf
  have blk40 : ∀ (H : Heap) (locs : List Loc) (now : Nat → Int32) (x1 : Int32) (x2 : Int32) (x3 : Int32) (x4 : Int32) (ls : Array Slot), va_P D vwCl (mw cI cZ ad un sd now past images iseed kept order numof above pile aside fewest deep keys worths) H → va_S (gA 15 ad) s.heap H locs → lv_has ls 7 [(0, .ref (ad 0)), (1, .int x1), (2, .int x2), (3, .int x3), (4, .int x4)] → fX9_turns_40 F now x1 x2 x3 x4 = some res → W p l e rX9_turns s m args below meth c H locs 0 0 Q (F0 m 40 ls []) := by
    intro H locs now x1 x2 x3 x4 ls hP hS hl hf
    unfold fX9_turns_40 at hf
    refine lv_iconst (v := (0 : Int32)) hx hb dX9_turns_40 (by decide) ?_
    exact blk41 _ _ now x1 x2 x3 x4 (0 : Int32) ls hP hS (lv_sub hl [0, 1, 2, 3, 4] rfl) hf
  unfold fX9_turns at hf
  refine lv_aload_n hx hb dX9_turns_0 rfl (lv_at hl 0 rfl) ?_
  refine lv_iload_n hx hb dX9_turns_1 rfl (lv_at hl 1 rfl) ?_
  refine lv_iconst (v := (5 : Int32)) hx hb dX9_turns_2 (by decide) ?_
  obtain ⟨q1, hq1, hf⟩ := obE hf
  refine ct_cVi (rest := []) (tX9_of hD hq1) hx hb hml hown ht hX hP hS wX9_of kML_RX9_63 rfl rfl ⟨Nat.le_of_ble_eq_true rfl, Nat.le_of_ble_eq_true rfl⟩ (va_recv hX.1 hP rfl mw_obj) rfl hl.1 rfl (Nat.le_of_ble_eq_true rfl) dX9_turns_3 (fun H locs hP hS => ?_)
  refine lv_istore_n (lv' := [(2, .int q1), (0, .ref (ad 0)), (1, .int x1)]) hx hb dX9_turns_6 rfl hl (by decide) rfl (fun ls hl => ?_)
  refine lv_aload_n hx hb dX9_turns_7 rfl (lv_at hl 1 rfl) ?_
  refine lv_iload_n hx hb dX9_turns_8 rfl (lv_at hl 0 rfl) ?_
  refine lv_iconst (v := (5 : Int32)) hx hb dX9_turns_9 (by decide) ?_
  obtain ⟨q2, hq2, hf⟩ := obE hf
  refine ct_cVi (rest := []) (tX9_of hD hq2) hx hb hml hown ht hX hP hS wX9_of kML_RX9_63 rfl rfl ⟨Nat.le_of_ble_eq_true rfl, Nat.le_of_ble_eq_true rfl⟩ (va_recv hX.1 hP rfl mw_obj) rfl hl.1 rfl (Nat.le_of_ble_eq_true rfl) dX9_turns_10 (fun H locs hP hS => ?_)
  refine lv_istore_n (lv' := [(3, .int q2), (2, .int q1), (0, .ref (ad 0)), (1, .int x1)]) hx hb dX9_turns_13 rfl hl (by decide) rfl (fun ls hl => ?_)
  refine lv_aload_n hx hb dX9_turns_14 rfl (lv_at hl 2 rfl) ?_
  refine lv_iload_n hx hb dX9_turns_15 rfl (lv_at hl 1 rfl) ?_
  refine lv_iload_n hx hb dX9_turns_16 rfl (lv_at hl 3 rfl) ?_
  obtain ⟨q3, hq3, hf⟩ := obE hf
  refine ct_cVi (rest := []) (tX9_isLeftOf hD hq3) hx hb hml hown ht hX hP hS wX9_isLeftOf kML_RX9_67 rfl rfl ⟨Nat.le_of_ble_eq_true rfl, Nat.le_of_ble_eq_true rfl⟩ (va_recv hX.1 hP rfl mw_obj) rfl hl.1 rfl (Nat.le_of_ble_eq_true rfl) dX9_turns_17 (fun H locs hP hS => ?_)
  refine lv_istore (lv' := [(4, .int q3), (3, .int q2), (2, .int q1), (0, .ref (ad 0)), (1, .int x1)]) hx hb dX9_turns_20 hl (by decide) rfl (fun ls hl => ?_)
  refine lv_iload_n hx hb dX9_turns_22 rfl (lv_at hl 1 rfl) ?_
  refine lv_iconst (v := (-1 : Int32)) hx hb dX9_turns_23 (by decide) ?_
  refine lv_icmp_eq (tgt := 40) hx hb dX9_turns_24 (by decide) (fun hc4 => ?_) (fun hc4 => ?_)
  · rw [if_pos hc4] at hf
    exact blk40 _ _ now x1 q1 q2 q3 ls hP hS (lv_sub hl [3, 4, 2, 1, 0] rfl) hf
  · rw [if_neg hc4] at hf
    refine lv_aload_n hx hb dX9_turns_27 rfl (lv_at hl 3 rfl) ?_
    refine lv_iload_n hx hb dX9_turns_28 rfl (lv_at hl 1 rfl) ?_
    refine lv_iload_n hx hb dX9_turns_29 rfl (lv_at hl 2 rfl) ?_
    obtain ⟨q5, hq5, hf⟩ := obE hf
    refine ct_cVi (rest := []) (tX9_isLeftOf hD hq5) hx hb hml hown ht hX hP hS wX9_isLeftOf kML_RX9_67 rfl rfl ⟨Nat.le_of_ble_eq_true rfl, Nat.le_of_ble_eq_true rfl⟩ (va_recv hX.1 hP rfl mw_obj) rfl hl.1 rfl (Nat.le_of_ble_eq_true rfl) dX9_turns_30 (fun H locs hP hS => ?_)
    refine lv_if_eq (tgt := 40) hx hb dX9_turns_33 (by decide) (fun hc6 => ?_) (fun hc6 => ?_)
    · rw [if_pos hc6] at hf
      exact blk40 _ _ now x1 q1 q2 q3 ls hP hS (lv_sub hl [3, 4, 2, 1, 0] rfl) hf
    · rw [if_neg hc6] at hf
      refine lv_iconst (v := (1 : Int32)) hx hb dX9_turns_36 (by decide) ?_
      refine lv_goto (tgt := 41) hx hb dX9_turns_37 (by decide) ?_
      exact blk41 _ _ now x1 q1 q2 q3 (1 : Int32) ls hP hS (lv_sub hl [3, 4, 2, 1, 0] rfl) hf
def fX9_ranks (F : Nat) (now : Nat → Int32) (x1 : Int32) (x2 : Int32) : Option ((Nat → Int32)) := (fX9_of F now x1 (2 : Int32)).bind fun q1 => ((fX9_lays F now x1 (2 : Int32) (q1 + x2)).bind fun q2 => (some q2))
abbrev rX9_ranks : Room := { frames := 1, cells := 0, slots := 0, locals := 23 }
theorem wX9_ranks : kV yX9_ranks cX9_ranks 3 none 2 := ⟨kCO_yX9_ranks, kIM_yX9_ranks, kSE_yX9_ranks, kIN_RX9, by decide +kernel, by decide +kernel, by decide +kernel⟩
set_option maxHeartbeats 4000000 in
set_option maxRecDepth 100000 in
theorem tX9_ranks {l : Launch} {D : va_G} {cI cZ : ClassId} {ad : Nat → Nat} (hD : gInj 15 ad) {F : Nat} {un sd : Int32} {now past images iseed kept order numof above pile aside fewest deep keys worths : Nat → Int32} {x1 : Int32} {x2 : Int32} {res : (Nat → Int32)} (hf : fX9_ranks F now x1 x2 = some res) : CTv l yX9_ranks cX9_ranks 3 rX9_ranks D (mTy cI cZ) (gA 15 ad) [.ref (ad 0), .int x1, .int x2] (mw cI cZ ad un sd now past images iseed kept order numof above pile aside fewest deep keys worths) (mw cI cZ ad un sd res past images iseed kept order numof above pile aside fewest deep keys worths) := by
  refine ct_void (by decide) (Nat.le_of_ble_eq_true rfl) ?_
  intro p e s m args below meth c Q ls hx hb hml hown ht hX hret hP hS hl
  have hl : lv_has ls 3 [(0, .ref (ad 0)), (1, .int x1), (2, .int x2)] := hl
  unfold fX9_ranks at hf
  refine lv_aload_n hx hb dX9_ranks_0 rfl (lv_at hl 0 rfl) ?_
  refine lv_iload_n hx hb dX9_ranks_1 rfl (lv_at hl 1 rfl) ?_
  refine lv_iconst (v := (2 : Int32)) hx hb dX9_ranks_2 (by decide) ?_
  refine lv_aload_n hx hb dX9_ranks_3 rfl (lv_at hl 0 rfl) ?_
  refine lv_iload_n hx hb dX9_ranks_4 rfl (lv_at hl 1 rfl) ?_
  refine lv_iconst (v := (2 : Int32)) hx hb dX9_ranks_5 (by decide) ?_
  obtain ⟨q1, hq1, hf⟩ := obE hf
  refine ct_cVi (rest := [.int ((2 : Int32)), .int x1, .ref (ad 0)]) (tX9_of hD hq1) hx hb hml hown ht hX hP hS wX9_of kML_RX9_63 rfl rfl ⟨Nat.le_of_ble_eq_true rfl, Nat.le_of_ble_eq_true rfl⟩ (va_recv hX.1 hP rfl mw_obj) rfl hl.1 rfl (Nat.le_of_ble_eq_true rfl) dX9_ranks_6 (fun H locs hP hS => ?_)
  refine lv_iload_n hx hb dX9_ranks_9 rfl (lv_at hl 2 rfl) ?_
  refine lv_iadd hx hb dX9_ranks_10 ?_
  obtain ⟨q2, hq2, hf⟩ := obE hf
  refine ct_cVv (rest := []) (tX9_lays hD hq2) hx hb hml hown ht hX hP hS wX9_lays kML_RX9_56 rfl rfl ⟨Nat.le_of_ble_eq_true rfl, Nat.le_of_ble_eq_true rfl⟩ (va_recv hX.1 hP rfl mw_obj) rfl hl.1 rfl (Nat.le_of_ble_eq_true rfl) dX9_ranks_11 (fun H locs hP hS => ?_)
  have e0 := Option.some.inj hf
  subst e0
  exact hret _ _ _ _ hP hS dX9_ranks_14
def fX9_step (F : Nat) (now : Nat → Int32) (x1 : Int32) (x2 : Int32) : Option (Int32) := (fX9_of F now x1 (2 : Int32)).bind fun q1 => ((fX9_rankOf F now x2).bind fun q2 => (some (q1 - q2)))
abbrev rX9_step : Room := { frames := 2, cells := 0, slots := 0, locals := 43 }
theorem wX9_step : kV yX9_step cX9_step 3 (some .int) 2 := ⟨kCO_yX9_step, kIM_yX9_step, kSE_yX9_step, kIN_RX9, by decide +kernel, by decide +kernel, by decide +kernel⟩
set_option maxHeartbeats 4000000 in
set_option maxRecDepth 100000 in
theorem tX9_step {l : Launch} {D : va_G} {cI cZ : ClassId} {ad : Nat → Nat} (hD : gInj 15 ad) {F : Nat} {un sd : Int32} {now past images iseed kept order numof above pile aside fewest deep keys worths : Nat → Int32} {x1 : Int32} {x2 : Int32} {res : Int32} (hf : fX9_step F now x1 x2 = some res) : CTi l yX9_step cX9_step 3 .int rX9_step D (mTy cI cZ) (gA 15 ad) [.ref (ad 0), .int x1, .int x2] (mw cI cZ ad un sd now past images iseed kept order numof above pile aside fewest deep keys worths) res (mw cI cZ ad un sd now past images iseed kept order numof above pile aside fewest deep keys worths) := by
  refine ct_int (by decide) (Nat.le_of_ble_eq_true rfl) ?_
  intro p e s m args below meth c Q ls hx hb hml hown ht hX hret hP hS hl
  have hl : lv_has ls 3 [(0, .ref (ad 0)), (1, .int x1), (2, .int x2)] := hl
  unfold fX9_step at hf
  refine lv_aload_n hx hb dX9_step_0 rfl (lv_at hl 0 rfl) ?_
  refine lv_iload_n hx hb dX9_step_1 rfl (lv_at hl 1 rfl) ?_
  refine lv_iconst (v := (2 : Int32)) hx hb dX9_step_2 (by decide) ?_
  obtain ⟨q1, hq1, hf⟩ := obE hf
  refine ct_cVi (rest := []) (tX9_of hD hq1) hx hb hml hown ht hX hP hS wX9_of kML_RX9_63 rfl rfl ⟨Nat.le_of_ble_eq_true rfl, Nat.le_of_ble_eq_true rfl⟩ (va_recv hX.1 hP rfl mw_obj) rfl hl.1 rfl (Nat.le_of_ble_eq_true rfl) dX9_step_3 (fun H locs hP hS => ?_)
  refine lv_aload_n hx hb dX9_step_6 rfl (lv_at hl 0 rfl) ?_
  refine lv_iload_n hx hb dX9_step_7 rfl (lv_at hl 2 rfl) ?_
  obtain ⟨q2, hq2, hf⟩ := obE hf
  refine ct_cVi (rest := [.int q1]) (tX9_rankOf hD hq2) hx hb hml hown ht hX hP hS wX9_rankOf kML_RX9_83 rfl rfl ⟨Nat.le_of_ble_eq_true rfl, Nat.le_of_ble_eq_true rfl⟩ (va_recv hX.1 hP rfl mw_obj) rfl hl.1 rfl (Nat.le_of_ble_eq_true rfl) dX9_step_8 (fun H locs hP hS => ?_)
  refine lv_isub hx hb dX9_step_11 ?_
  have e0 := Option.some.inj hf
  subst e0
  exact hret _ _ _ _ hP hS dX9_step_12
def fX9_find_5 (F : Nat) (now : Nat → Int32) : Nat → Int32 → Int32 → Option (Int32)
  | 0, _, _ => none
  | n + 1, x1, x2 => if x2 = (-1 : Int32) then (some x2) else ((fX9_of F now x2 (0 : Int32)).bind fun q3 => (if q3 = x1 then (some x2) else ((fX9_of F now x2 (0 : Int32)).bind fun q5 => (if q5 ≤ x1 then ((fX9_child F now x2 (0 : Int32)).bind fun q7 => (fX9_find_5 F now n x1 q7)) else ((fX9_child F now x2 (1 : Int32)).bind fun q8 => (fX9_find_5 F now n x1 q8))))))
def fX9_find (F : Nat) (now : Nat → Int32) (x1 : Int32) : Option (Int32) := (fX9_top F now).bind fun q1 => (fX9_find_5 F now F x1 q1)
abbrev rX9_find : Room := { frames := 2, cells := 0, slots := 0, locals := 44 }
theorem wX9_find : kV yX9_find cX9_find 3 (some .int) 1 := ⟨kCO_yX9_find, kIM_yX9_find, kSE_yX9_find, kIN_RX9, by decide +kernel, by decide +kernel, by decide +kernel⟩
set_option maxHeartbeats 4000000 in
set_option maxRecDepth 100000 in
theorem tX9_find {l : Launch} {D : va_G} {cI cZ : ClassId} {ad : Nat → Nat} (hD : gInj 15 ad) {F : Nat} {un sd : Int32} {now past images iseed kept order numof above pile aside fewest deep keys worths : Nat → Int32} {x1 : Int32} {res : Int32} (hf : fX9_find F now x1 = some res) : CTi l yX9_find cX9_find 3 .int rX9_find D (mTy cI cZ) (gA 15 ad) [.ref (ad 0), .int x1] (mw cI cZ ad un sd now past images iseed kept order numof above pile aside fewest deep keys worths) res (mw cI cZ ad un sd now past images iseed kept order numof above pile aside fewest deep keys worths) := by
  refine ct_int (by decide) (Nat.le_of_ble_eq_true rfl) ?_
  intro p e s m args below meth c Q ls hx hb hml hown ht hX hret hP hS hl
  have hl : lv_has ls 3 [(0, .ref (ad 0)), (1, .int x1)] := hl
  have blk5 : ∀ (n5 : Nat) (H : Heap) (locs : List Loc) (x1 : Int32) (x2 : Int32) (ls : Array Slot), va_P D vwCl (mw cI cZ ad un sd now past images iseed kept order numof above pile aside fewest deep keys worths) H → va_S (gA 15 ad) s.heap H locs → lv_has ls 3 [(0, .ref (ad 0)), (1, .int x1), (2, .int x2)] → fX9_find_5 F now n5 x1 x2 = some res → W p l e rX9_find s m args below meth c H locs 0 0 Q (F0 m 5 ls []) := by
    intro n5
    induction n5 with
    | zero =>
      intro H locs x1 x2 ls hP hS hl hf
      rw [fX9_find_5] at hf
      cases hf
    | succ n5 ih5 =>
      skip
      intro H locs x1 x2 ls hP hS hl hf
      rw [fX9_find_5] at hf
      refine lv_iload_n hx hb dX9_find_5 rfl (lv_at hl 2 rfl) ?_
      refine lv_iconst (v := (-1 : Int32)) hx hb dX9_find_6 (by decide) ?_
      refine lv_icmp_eq (tgt := 44) hx hb dX9_find_7 (by decide) (fun hc2 => ?_) (fun hc2 => ?_)
      · rw [if_pos hc2] at hf
        refine lv_iload_n hx hb dX9_find_44 rfl (lv_at hl 2 rfl) ?_
        have e0 := Option.some.inj hf
        subst e0
        exact hret _ _ _ _ hP hS dX9_find_45
      · rw [if_neg hc2] at hf
        refine lv_aload_n hx hb dX9_find_10 rfl (lv_at hl 0 rfl) ?_
        refine lv_iload_n hx hb dX9_find_11 rfl (lv_at hl 2 rfl) ?_
        refine lv_iconst (v := (0 : Int32)) hx hb dX9_find_12 (by decide) ?_
        obtain ⟨q3, hq3, hf⟩ := obE hf
        refine ct_cVi (rest := []) (tX9_of hD hq3) hx hb hml hown ht hX hP hS wX9_of kML_RX9_63 rfl rfl ⟨Nat.le_of_ble_eq_true rfl, Nat.le_of_ble_eq_true rfl⟩ (va_recv hX.1 hP rfl mw_obj) rfl hl.1 rfl (Nat.le_of_ble_eq_true rfl) dX9_find_13 (fun H locs hP hS => ?_)
        refine lv_iload_n hx hb dX9_find_16 rfl (lv_at hl 1 rfl) ?_
        refine lv_icmp_eq (tgt := 44) hx hb dX9_find_17 (by decide) (fun hc4 => ?_) (fun hc4 => ?_)
        · rw [if_pos hc4] at hf
          refine lv_iload_n hx hb dX9_find_44 rfl (lv_at hl 2 rfl) ?_
          have e0 := Option.some.inj hf
          subst e0
          exact hret _ _ _ _ hP hS dX9_find_45
        · rw [if_neg hc4] at hf
          refine lv_aload_n hx hb dX9_find_20 rfl (lv_at hl 0 rfl) ?_
          refine lv_iload_n hx hb dX9_find_21 rfl (lv_at hl 2 rfl) ?_
          refine lv_iload_n hx hb dX9_find_22 rfl (lv_at hl 1 rfl) ?_
          refine lv_aload_n hx hb dX9_find_23 rfl (lv_at hl 0 rfl) ?_
          refine lv_iload_n hx hb dX9_find_24 rfl (lv_at hl 2 rfl) ?_
          refine lv_iconst (v := (0 : Int32)) hx hb dX9_find_25 (by decide) ?_
          obtain ⟨q5, hq5, hf⟩ := obE hf
          refine ct_cVi (rest := [.int x1, .int x2, .ref (ad 0)]) (tX9_of hD hq5) hx hb hml hown ht hX hP hS wX9_of kML_RX9_63 rfl rfl ⟨Nat.le_of_ble_eq_true rfl, Nat.le_of_ble_eq_true rfl⟩ (va_recv hX.1 hP rfl mw_obj) rfl hl.1 rfl (Nat.le_of_ble_eq_true rfl) dX9_find_26 (fun H locs hP hS => ?_)
          refine lv_icmp_ge (tgt := 36) hx hb dX9_find_29 (by decide) (fun hc6 => ?_) (fun hc6 => ?_)
          · rw [if_pos hc6] at hf
            refine lv_iconst (v := (0 : Int32)) hx hb dX9_find_36 (by decide) ?_
            obtain ⟨q7, hq7, hf⟩ := obE hf
            refine ct_cVi (rest := []) (tX9_child hD hq7) hx hb hml hown ht hX hP hS wX9_child kML_RX9_71 rfl rfl ⟨Nat.le_of_ble_eq_true rfl, Nat.le_of_ble_eq_true rfl⟩ (va_recv hX.1 hP rfl mw_obj) rfl hl.1 rfl (Nat.le_of_ble_eq_true rfl) dX9_find_37 (fun H locs hP hS => ?_)
            refine lv_istore_n (lv' := [(2, .int q7), (0, .ref (ad 0)), (1, .int x1)]) hx hb dX9_find_40 rfl hl (by decide) rfl (fun ls hl => ?_)
            refine lv_goto (tgt := 5) hx hb dX9_find_41 (by decide) ?_
            exact ih5 _ _ x1 q7 ls hP hS (lv_sub hl [1, 2, 0] rfl) hf
          · rw [if_neg hc6] at hf
            refine lv_iconst (v := (1 : Int32)) hx hb dX9_find_32 (by decide) ?_
            refine lv_goto (tgt := 37) hx hb dX9_find_33 (by decide) ?_
            obtain ⟨q8, hq8, hf⟩ := obE hf
            refine ct_cVi (rest := []) (tX9_child hD hq8) hx hb hml hown ht hX hP hS wX9_child kML_RX9_71 rfl rfl ⟨Nat.le_of_ble_eq_true rfl, Nat.le_of_ble_eq_true rfl⟩ (va_recv hX.1 hP rfl mw_obj) rfl hl.1 rfl (Nat.le_of_ble_eq_true rfl) dX9_find_37 (fun H locs hP hS => ?_)
            refine lv_istore_n (lv' := [(2, .int q8), (0, .ref (ad 0)), (1, .int x1)]) hx hb dX9_find_40 rfl hl (by decide) rfl (fun ls hl => ?_)
            refine lv_goto (tgt := 5) hx hb dX9_find_41 (by decide) ?_
            exact ih5 _ _ x1 q8 ls hP hS (lv_sub hl [1, 2, 0] rfl) hf
  unfold fX9_find at hf
  refine lv_aload_n hx hb dX9_find_0 rfl (lv_at hl 0 rfl) ?_
  obtain ⟨q1, hq1, hf⟩ := obE hf
  refine ct_cVi (rest := []) (tX9_top hD hq1) hx hb hml hown ht hX hP hS wX9_top kML_RX9_87 rfl rfl ⟨Nat.le_of_ble_eq_true rfl, Nat.le_of_ble_eq_true rfl⟩ (va_recv hX.1 hP rfl mw_obj) rfl hl.1 rfl (Nat.le_of_ble_eq_true rfl) dX9_find_1 (fun H locs hP hS => ?_)
  refine lv_istore_n (lv' := [(2, .int q1), (0, .ref (ad 0)), (1, .int x1)]) hx hb dX9_find_4 rfl hl (by decide) rfl (fun ls hl => ?_)
  exact blk5 F _ _ x1 q1 ls hP hS (lv_sub hl [1, 2, 0] rfl) hf
def fX9_freeOne_2 (F : Nat) (now : Nat → Int32) : Nat → Int32 → Option (Int32)
  | 0, _ => none
  | n + 1, x1 => (fX9_of F now x1 (0 : Int32)).bind fun q1 => (if q1 = (-1 : Int32) then (some x1) else (fX9_freeOne_2 F now n (x1 + (1 : Int32))))
def fX9_freeOne (F : Nat) (now : Nat → Int32) : Option (Int32) := fX9_freeOne_2 F now F (0 : Int32)
abbrev rX9_freeOne : Room := { frames := 1, cells := 0, slots := 0, locals := 22 }
theorem wX9_freeOne : kV yX9_freeOne cX9_freeOne 2 (some .int) 0 := ⟨kCO_yX9_freeOne, kIM_yX9_freeOne, kSE_yX9_freeOne, kIN_RX9, by decide +kernel, by decide +kernel, by decide +kernel⟩
set_option maxHeartbeats 4000000 in
set_option maxRecDepth 100000 in
theorem tX9_freeOne {l : Launch} {D : va_G} {cI cZ : ClassId} {ad : Nat → Nat} (hD : gInj 15 ad) {F : Nat} {un sd : Int32} {now past images iseed kept order numof above pile aside fewest deep keys worths : Nat → Int32} {res : Int32} (hf : fX9_freeOne F now = some res) : CTi l yX9_freeOne cX9_freeOne 2 .int rX9_freeOne D (mTy cI cZ) (gA 15 ad) [.ref (ad 0)] (mw cI cZ ad un sd now past images iseed kept order numof above pile aside fewest deep keys worths) res (mw cI cZ ad un sd now past images iseed kept order numof above pile aside fewest deep keys worths) := by
  refine ct_int (by decide) (Nat.le_of_ble_eq_true rfl) ?_
  intro p e s m args below meth c Q ls hx hb hml hown ht hX hret hP hS hl
  have hl : lv_has ls 2 [(0, .ref (ad 0))] := hl
  have blk2 : ∀ (n2 : Nat) (H : Heap) (locs : List Loc) (x1 : Int32) (ls : Array Slot), va_P D vwCl (mw cI cZ ad un sd now past images iseed kept order numof above pile aside fewest deep keys worths) H → va_S (gA 15 ad) s.heap H locs → lv_has ls 2 [(0, .ref (ad 0)), (1, .int x1)] → fX9_freeOne_2 F now n2 x1 = some res → W p l e rX9_freeOne s m args below meth c H locs 0 0 Q (F0 m 2 ls []) := by
    intro n2
    induction n2 with
    | zero =>
      intro H locs x1 ls hP hS hl hf
      rw [fX9_freeOne_2] at hf
      cases hf
    | succ n2 ih2 =>
      skip
      intro H locs x1 ls hP hS hl hf
      rw [fX9_freeOne_2] at hf
      refine lv_aload_n hx hb dX9_freeOne_2 rfl (lv_at hl 0 rfl) ?_
      refine lv_iload_n hx hb dX9_freeOne_3 rfl (lv_at hl 1 rfl) ?_
      refine lv_iconst (v := (0 : Int32)) hx hb dX9_freeOne_4 (by decide) ?_
      obtain ⟨q1, hq1, hf⟩ := obE hf
      refine ct_cVi (rest := []) (tX9_of hD hq1) hx hb hml hown ht hX hP hS wX9_of kML_RX9_63 rfl rfl ⟨Nat.le_of_ble_eq_true rfl, Nat.le_of_ble_eq_true rfl⟩ (va_recv hX.1 hP rfl mw_obj) rfl hl.1 rfl (Nat.le_of_ble_eq_true rfl) dX9_freeOne_5 (fun H locs hP hS => ?_)
      refine lv_iconst (v := (-1 : Int32)) hx hb dX9_freeOne_8 (by decide) ?_
      refine lv_icmp_eq (tgt := 18) hx hb dX9_freeOne_9 (by decide) (fun hc2 => ?_) (fun hc2 => ?_)
      · rw [if_pos hc2] at hf
        refine lv_iload_n hx hb dX9_freeOne_18 rfl (lv_at hl 1 rfl) ?_
        have e0 := Option.some.inj hf
        subst e0
        exact hret _ _ _ _ hP hS dX9_freeOne_19
      · rw [if_neg hc2] at hf
        refine lv_iinc (v := x1 + (1 : Int32)) (lv' := [(1, .int (x1 + (1 : Int32))), (0, .ref (ad 0))]) hx hb dX9_freeOne_12 hl (k := 1) rfl rfl (by decide) rfl (fun ls hl => ?_)
        refine lv_goto (tgt := 2) hx hb dX9_freeOne_15 (by decide) ?_
        exact ih2 _ _ (x1 + (1 : Int32)) ls hP hS (lv_sub hl [1, 0] rfl) hf
  unfold fX9_freeOne at hf
  refine lv_iconst (v := (0 : Int32)) hx hb dX9_freeOne_0 (by decide) ?_
  refine lv_istore_n (lv' := [(1, .int ((0 : Int32))), (0, .ref (ad 0))]) hx hb dX9_freeOne_1 rfl hl (by decide) rfl (fun ls hl => ?_)
  exact blk2 F _ _ (0 : Int32) ls hP hS (lv_sub hl [1, 0] rfl) hf
def fX9_turnsUp (F : Nat) (now : Nat → Int32) (x1 : Int32) (x2 : Int32) (x3 : Int32) : Option ((Nat → Int32)) := (fX9_step F now x1 x3).bind fun q1 => (if q1 = (2 : Int32) then ((fX9_turns F now x1).bind fun q8 => ((fX9_ranks F q8 x2 (-1 : Int32)).bind fun q9 => (some q9))) else ((fX9_turns F now x3).bind fun q3 => ((fX9_turns F q3 x3).bind fun q4 => ((fX9_ranks F q4 x3 (1 : Int32)).bind fun q5 => ((fX9_ranks F q5 x1 (-1 : Int32)).bind fun q6 => ((fX9_ranks F q6 x2 (-1 : Int32)).bind fun q7 => (some q7)))))))
abbrev rX9_turnsUp : Room := { frames := 3, cells := 0, slots := 0, locals := 72 }
theorem wX9_turnsUp : kV yX9_turnsUp cX9_turnsUp 4 none 3 := ⟨kCO_yX9_turnsUp, kIM_yX9_turnsUp, kSE_yX9_turnsUp, kIN_RX9, by decide +kernel, by decide +kernel, by decide +kernel⟩
set_option maxHeartbeats 4000000 in
set_option maxRecDepth 100000 in
theorem tX9_turnsUp {l : Launch} {D : va_G} {cI cZ : ClassId} {ad : Nat → Nat} (hD : gInj 15 ad) {F : Nat} {un sd : Int32} {now past images iseed kept order numof above pile aside fewest deep keys worths : Nat → Int32} {x1 : Int32} {x2 : Int32} {x3 : Int32} {res : (Nat → Int32)} (hf : fX9_turnsUp F now x1 x2 x3 = some res) : CTv l yX9_turnsUp cX9_turnsUp 4 rX9_turnsUp D (mTy cI cZ) (gA 15 ad) [.ref (ad 0), .int x1, .int x2, .int x3] (mw cI cZ ad un sd now past images iseed kept order numof above pile aside fewest deep keys worths) (mw cI cZ ad un sd res past images iseed kept order numof above pile aside fewest deep keys worths) := by
  refine ct_void (by decide) (Nat.le_of_ble_eq_true rfl) ?_
  intro p e s m args below meth c Q ls hx hb hml hown ht hX hret hP hS hl
  have hl : lv_has ls 4 [(0, .ref (ad 0)), (1, .int x1), (2, .int x2), (3, .int x3)] := hl
  unfold fX9_turnsUp at hf
  refine lv_aload_n hx hb dX9_turnsUp_0 rfl (lv_at hl 0 rfl) ?_
  refine lv_iload_n hx hb dX9_turnsUp_1 rfl (lv_at hl 1 rfl) ?_
  refine lv_iload_n hx hb dX9_turnsUp_2 rfl (lv_at hl 3 rfl) ?_
  obtain ⟨q1, hq1, hf⟩ := obE hf
  refine ct_cVi (rest := []) (tX9_step hD hq1) hx hb hml hown ht hX hP hS wX9_step kML_RX9_100 rfl rfl ⟨Nat.le_of_ble_eq_true rfl, Nat.le_of_ble_eq_true rfl⟩ (va_recv hX.1 hP rfl mw_obj) rfl hl.1 rfl (Nat.le_of_ble_eq_true rfl) dX9_turnsUp_3 (fun H locs hP hS => ?_)
  refine lv_iconst (v := (2 : Int32)) hx hb dX9_turnsUp_6 (by decide) ?_
  refine lv_icmp_ne (tgt := 24) hx hb dX9_turnsUp_7 (by decide) (fun hc2 => ?_) (fun hc2 => ?_)
  · rw [if_neg hc2] at hf
    refine lv_aload_n hx hb dX9_turnsUp_24 rfl (lv_at hl 0 rfl) ?_
    refine lv_iload_n hx hb dX9_turnsUp_25 rfl (lv_at hl 3 rfl) ?_
    obtain ⟨q3, hq3, hf⟩ := obE hf
    refine ct_cVv (rest := []) (tX9_turns hD hq3) hx hb hml hown ht hX hP hS wX9_turns kML_RX9_110 rfl rfl ⟨Nat.le_of_ble_eq_true rfl, Nat.le_of_ble_eq_true rfl⟩ (va_recv hX.1 hP rfl mw_obj) rfl hl.1 rfl (Nat.le_of_ble_eq_true rfl) dX9_turnsUp_26 (fun H locs hP hS => ?_)
    refine lv_aload_n hx hb dX9_turnsUp_29 rfl (lv_at hl 0 rfl) ?_
    refine lv_iload_n hx hb dX9_turnsUp_30 rfl (lv_at hl 3 rfl) ?_
    obtain ⟨q4, hq4, hf⟩ := obE hf
    refine ct_cVv (rest := []) (tX9_turns hD hq4) hx hb hml hown ht hX hP hS wX9_turns kML_RX9_110 rfl rfl ⟨Nat.le_of_ble_eq_true rfl, Nat.le_of_ble_eq_true rfl⟩ (va_recv hX.1 hP rfl mw_obj) rfl hl.1 rfl (Nat.le_of_ble_eq_true rfl) dX9_turnsUp_31 (fun H locs hP hS => ?_)
    refine lv_aload_n hx hb dX9_turnsUp_34 rfl (lv_at hl 0 rfl) ?_
    refine lv_iload_n hx hb dX9_turnsUp_35 rfl (lv_at hl 3 rfl) ?_
    refine lv_iconst (v := (1 : Int32)) hx hb dX9_turnsUp_36 (by decide) ?_
    obtain ⟨q5, hq5, hf⟩ := obE hf
    refine ct_cVv (rest := []) (tX9_ranks hD hq5) hx hb hml hown ht hX hP hS wX9_ranks kML_RX9_103 rfl rfl ⟨Nat.le_of_ble_eq_true rfl, Nat.le_of_ble_eq_true rfl⟩ (va_recv hX.1 hP rfl mw_obj) rfl hl.1 rfl (Nat.le_of_ble_eq_true rfl) dX9_turnsUp_37 (fun H locs hP hS => ?_)
    refine lv_aload_n hx hb dX9_turnsUp_40 rfl (lv_at hl 0 rfl) ?_
    refine lv_iload_n hx hb dX9_turnsUp_41 rfl (lv_at hl 1 rfl) ?_
    refine lv_iconst (v := (-1 : Int32)) hx hb dX9_turnsUp_42 (by decide) ?_
    obtain ⟨q6, hq6, hf⟩ := obE hf
    refine ct_cVv (rest := []) (tX9_ranks hD hq6) hx hb hml hown ht hX hP hS wX9_ranks kML_RX9_103 rfl rfl ⟨Nat.le_of_ble_eq_true rfl, Nat.le_of_ble_eq_true rfl⟩ (va_recv hX.1 hP rfl mw_obj) rfl hl.1 rfl (Nat.le_of_ble_eq_true rfl) dX9_turnsUp_43 (fun H locs hP hS => ?_)
    refine lv_aload_n hx hb dX9_turnsUp_46 rfl (lv_at hl 0 rfl) ?_
    refine lv_iload_n hx hb dX9_turnsUp_47 rfl (lv_at hl 2 rfl) ?_
    refine lv_iconst (v := (-1 : Int32)) hx hb dX9_turnsUp_48 (by decide) ?_
    obtain ⟨q7, hq7, hf⟩ := obE hf
    refine ct_cVv (rest := []) (tX9_ranks hD hq7) hx hb hml hown ht hX hP hS wX9_ranks kML_RX9_103 rfl rfl ⟨Nat.le_of_ble_eq_true rfl, Nat.le_of_ble_eq_true rfl⟩ (va_recv hX.1 hP rfl mw_obj) rfl hl.1 rfl (Nat.le_of_ble_eq_true rfl) dX9_turnsUp_49 (fun H locs hP hS => ?_)
    have e0 := Option.some.inj hf
    subst e0
    exact hret _ _ _ _ hP hS dX9_turnsUp_52
  · rw [if_pos hc2] at hf
    refine lv_aload_n hx hb dX9_turnsUp_10 rfl (lv_at hl 0 rfl) ?_
    refine lv_iload_n hx hb dX9_turnsUp_11 rfl (lv_at hl 1 rfl) ?_
    obtain ⟨q8, hq8, hf⟩ := obE hf
    refine ct_cVv (rest := []) (tX9_turns hD hq8) hx hb hml hown ht hX hP hS wX9_turns kML_RX9_110 rfl rfl ⟨Nat.le_of_ble_eq_true rfl, Nat.le_of_ble_eq_true rfl⟩ (va_recv hX.1 hP rfl mw_obj) rfl hl.1 rfl (Nat.le_of_ble_eq_true rfl) dX9_turnsUp_12 (fun H locs hP hS => ?_)
    refine lv_aload_n hx hb dX9_turnsUp_15 rfl (lv_at hl 0 rfl) ?_
    refine lv_iload_n hx hb dX9_turnsUp_16 rfl (lv_at hl 2 rfl) ?_
    refine lv_iconst (v := (-1 : Int32)) hx hb dX9_turnsUp_17 (by decide) ?_
    obtain ⟨q9, hq9, hf⟩ := obE hf
    refine ct_cVv (rest := []) (tX9_ranks hD hq9) hx hb hml hown ht hX hP hS wX9_ranks kML_RX9_103 rfl rfl ⟨Nat.le_of_ble_eq_true rfl, Nat.le_of_ble_eq_true rfl⟩ (va_recv hX.1 hP rfl mw_obj) rfl hl.1 rfl (Nat.le_of_ble_eq_true rfl) dX9_turnsUp_18 (fun H locs hP hS => ?_)
    refine lv_goto (tgt := 52) hx hb dX9_turnsUp_21 (by decide) ?_
    have e0 := Option.some.inj hf
    subst e0
    exact hret _ _ _ _ hP hS dX9_turnsUp_52
def fX9_rises_111 (F : Nat) (k4 : (Nat → Int32) → Int32 → Int32 → Option ((Nat → Int32))) (now : Nat → Int32) (x2 : Int32) (y1 : Int32) (y2 : Int32) (y4 : Int32) (y5 : Int32) : Option ((Nat → Int32)) := (fX9_child F now y4 y5).bind fun q15 => ((fX9_turnsUp F now y1 y2 q15).bind fun q16 => (k4 q16 x2 (0 : Int32)))
def fX9_rises_67 (F : Nat) (k4 : (Nat → Int32) → Int32 → Int32 → Option ((Nat → Int32))) (now : Nat → Int32) (x2 : Int32) (x3 : Int32) (x4 : Int32) (x5 : Int32) (y1 : Int32) (y3 : Int32) (y4 : Int32) : Option ((Nat → Int32)) := (fX9_child F now y3 y4).bind fun q9 => ((fX9_step F now y1 q9).bind fun q10 => (if q10 = (1 : Int32) then ((fX9_ranks F now x4 (1 : Int32)).bind fun q13 => ((fX9_counts F q13 (0 : Int32)).bind fun q14 => (k4 q14 x4 x3))) else (if x5 = 0 then (fX9_rises_111 F k4 now x2 x2 x4 x2 (1 : Int32)) else (fX9_rises_111 F k4 now x2 x2 x4 x2 (0 : Int32)))))
def fX9_rises_37 (F : Nat) (k4 : (Nat → Int32) → Int32 → Int32 → Option ((Nat → Int32))) (now : Nat → Int32) (x2 : Int32) (x4 : Int32) (y0 : Int32) : Option ((Nat → Int32)) := if y0 = 0 then (k4 now x2 y0) else ((fX9_isLeftOf F now x4 x2).bind fun q7 => (if q7 = 0 then (fX9_rises_67 F k4 now x2 y0 x4 q7 x4 x4 (1 : Int32)) else (fX9_rises_67 F k4 now x2 y0 x4 q7 x4 x4 (0 : Int32))))
def fX9_rises_36 (F : Nat) (k4 : (Nat → Int32) → Int32 → Int32 → Option ((Nat → Int32))) (now : Nat → Int32) (x2 : Int32) (x4 : Int32) : Option ((Nat → Int32)) := fX9_rises_37 F k4 now x2 x4 (0 : Int32)
def fX9_rises_4 (F : Nat) : Nat → (Nat → Int32) → Int32 → Int32 → Option ((Nat → Int32))
  | 0, _, _, _ => none
  | n + 1, now, x2, x3 => if x3 = 0 then (some now) else ((fX9_of F now x2 (5 : Int32)).bind fun q2 => (if q2 = (-1 : Int32) then (fX9_rises_36 F (fun now x2 x3 => fX9_rises_4 F n now x2 x3) now x2 q2) else ((fX9_step F now q2 x2).bind fun q4 => (if q4 = 0 then (fX9_rises_37 F (fun now x2 x3 => fX9_rises_4 F n now x2 x3) now x2 q2 (1 : Int32)) else (fX9_rises_36 F (fun now x2 x3 => fX9_rises_4 F n now x2 x3) now x2 q2)))))
def fX9_rises (F : Nat) (now : Nat → Int32) (x1 : Int32) : Option ((Nat → Int32)) := fX9_rises_4 F F now x1 (1 : Int32)
abbrev rX9_rises : Room := { frames := 4, cells := 0, slots := 0, locals := 95 }
theorem wX9_rises : kV yX9_rises cX9_rises 6 none 1 := ⟨kCO_yX9_rises, kIM_yX9_rises, kSE_yX9_rises, kIN_RX9, by decide +kernel, by decide +kernel, by decide +kernel⟩
set_option maxHeartbeats 4000000 in
set_option maxRecDepth 100000 in
theorem tX9_rises {l : Launch} {D : va_G} {cI cZ : ClassId} {ad : Nat → Nat} (hD : gInj 15 ad) {F : Nat} {un sd : Int32} {now past images iseed kept order numof above pile aside fewest deep keys worths : Nat → Int32} {x1 : Int32} {res : (Nat → Int32)} (hf : fX9_rises F now x1 = some res) : CTv l yX9_rises cX9_rises 6 rX9_rises D (mTy cI cZ) (gA 15 ad) [.ref (ad 0), .int x1] (mw cI cZ ad un sd now past images iseed kept order numof above pile aside fewest deep keys worths) (mw cI cZ ad un sd res past images iseed kept order numof above pile aside fewest deep keys worths) := by
  refine ct_void (by decide) (Nat.le_of_ble_eq_true rfl) ?_
  intro p e s m args below meth c Q ls hx hb hml hown ht hX hret hP hS hl
  have hl : lv_has ls 6 [(0, .ref (ad 0)), (1, .int x1)] := hl
  have blk4 : ∀ (n4 : Nat) (H : Heap) (locs : List Loc) (now : Nat → Int32) (x2 : Int32) (x3 : Int32) (ls : Array Slot), va_P D vwCl (mw cI cZ ad un sd now past images iseed kept order numof above pile aside fewest deep keys worths) H → va_S (gA 15 ad) s.heap H locs → lv_has ls 6 [(0, .ref (ad 0)), (2, .int x2), (3, .int x3)] → fX9_rises_4 F n4 now x2 x3 = some res → W p l e rX9_rises s m args below meth c H locs 0 0 Q (F0 m 4 ls []) := by
    intro n4
    induction n4 with
    | zero =>
      intro H locs now x2 x3 ls hP hS hl hf
      rw [fX9_rises_4] at hf
      cases hf
    | succ n4 ih4 =>
      skip
      have blk111 : ∀ (H : Heap) (locs : List Loc) (now : Nat → Int32) (x2 : Int32) (y1 : Int32) (y2 : Int32) (y4 : Int32) (y5 : Int32) (ls : Array Slot), va_P D vwCl (mw cI cZ ad un sd now past images iseed kept order numof above pile aside fewest deep keys worths) H → va_S (gA 15 ad) s.heap H locs → lv_has ls 6 [(0, .ref (ad 0)), (2, .int x2)] → fX9_rises_111 F (fun now x2 x3 => fX9_rises_4 F n4 now x2 x3) now x2 y1 y2 y4 y5 = some res → W p l e rX9_rises s m args below meth c H locs 0 0 Q (F0 m 111 ls [.int y5, .int y4, .ref (ad 0), .int y2, .int y1, .ref (ad 0)]) := by
        intro H locs now x2 y1 y2 y4 y5 ls hP hS hl hf
        unfold fX9_rises_111 at hf
        obtain ⟨q15, hq15, hf⟩ := obE hf
        refine ct_cVi (rest := [.int y2, .int y1, .ref (ad 0)]) (tX9_child hD hq15) hx hb hml hown ht hX hP hS wX9_child kML_RX9_71 rfl rfl ⟨Nat.le_of_ble_eq_true rfl, Nat.le_of_ble_eq_true rfl⟩ (va_recv hX.1 hP rfl mw_obj) rfl hl.1 rfl (Nat.le_of_ble_eq_true rfl) dX9_rises_111 (fun H locs hP hS => ?_)
        obtain ⟨q16, hq16, hf⟩ := obE hf
        refine ct_cVv (rest := []) (tX9_turnsUp hD hq16) hx hb hml hown ht hX hP hS wX9_turnsUp kML_RX9_107 rfl rfl ⟨Nat.le_of_ble_eq_true rfl, Nat.le_of_ble_eq_true rfl⟩ (va_recv hX.1 hP rfl mw_obj) rfl hl.1 rfl (Nat.le_of_ble_eq_true rfl) dX9_rises_114 (fun H locs hP hS => ?_)
        refine lv_iconst (v := (0 : Int32)) hx hb dX9_rises_117 (by decide) ?_
        refine lv_istore_n (lv' := [(3, .int ((0 : Int32))), (0, .ref (ad 0)), (2, .int x2)]) hx hb dX9_rises_118 rfl hl (by decide) rfl (fun ls hl => ?_)
        refine lv_goto (tgt := 4) hx hb dX9_rises_119 (by decide) ?_
        exact ih4 _ _ q16 x2 (0 : Int32) ls hP hS (lv_sub hl [1, 2, 0] rfl) hf
      have blk67 : ∀ (H : Heap) (locs : List Loc) (now : Nat → Int32) (x2 : Int32) (x3 : Int32) (x4 : Int32) (x5 : Int32) (y1 : Int32) (y3 : Int32) (y4 : Int32) (ls : Array Slot), va_P D vwCl (mw cI cZ ad un sd now past images iseed kept order numof above pile aside fewest deep keys worths) H → va_S (gA 15 ad) s.heap H locs → lv_has ls 6 [(0, .ref (ad 0)), (2, .int x2), (3, .int x3), (4, .int x4), (5, .int x5)] → fX9_rises_67 F (fun now x2 x3 => fX9_rises_4 F n4 now x2 x3) now x2 x3 x4 x5 y1 y3 y4 = some res → W p l e rX9_rises s m args below meth c H locs 0 0 Q (F0 m 67 ls [.int y4, .int y3, .ref (ad 0), .int y1, .ref (ad 0)]) := by
        intro H locs now x2 x3 x4 x5 y1 y3 y4 ls hP hS hl hf
        unfold fX9_rises_67 at hf
        obtain ⟨q9, hq9, hf⟩ := obE hf
        refine ct_cVi (rest := [.int y1, .ref (ad 0)]) (tX9_child hD hq9) hx hb hml hown ht hX hP hS wX9_child kML_RX9_71 rfl rfl ⟨Nat.le_of_ble_eq_true rfl, Nat.le_of_ble_eq_true rfl⟩ (va_recv hX.1 hP rfl mw_obj) rfl hl.1 rfl (Nat.le_of_ble_eq_true rfl) dX9_rises_67 (fun H locs hP hS => ?_)
        obtain ⟨q10, hq10, hf⟩ := obE hf
        refine ct_cVi (rest := []) (tX9_step hD hq10) hx hb hml hown ht hX hP hS wX9_step kML_RX9_100 rfl rfl ⟨Nat.le_of_ble_eq_true rfl, Nat.le_of_ble_eq_true rfl⟩ (va_recv hX.1 hP rfl mw_obj) rfl hl.1 rfl (Nat.le_of_ble_eq_true rfl) dX9_rises_70 (fun H locs hP hS => ?_)
        refine lv_iconst (v := (1 : Int32)) hx hb dX9_rises_73 (by decide) ?_
        refine lv_icmp_ne (tgt := 95) hx hb dX9_rises_74 (by decide) (fun hc11 => ?_) (fun hc11 => ?_)
        · rw [if_neg hc11] at hf
          refine lv_aload_n hx hb dX9_rises_95 rfl (lv_at hl 0 rfl) ?_
          refine lv_iload_n hx hb dX9_rises_96 rfl (lv_at hl 1 rfl) ?_
          refine lv_iload hx hb dX9_rises_97 (lv_at hl 3 rfl) ?_
          refine lv_aload_n hx hb dX9_rises_99 rfl (lv_at hl 0 rfl) ?_
          refine lv_iload_n hx hb dX9_rises_100 rfl (lv_at hl 1 rfl) ?_
          refine lv_iload hx hb dX9_rises_101 (lv_at hl 4 rfl) ?_
          refine lv_if_ne (tgt := 110) hx hb dX9_rises_103 (by decide) (fun hc12 => ?_) (fun hc12 => ?_)
          · rw [if_neg hc12] at hf
            refine lv_iconst (v := (0 : Int32)) hx hb dX9_rises_110 (by decide) ?_
            exact blk111 _ _ now x2 x2 x4 x2 (0 : Int32) ls hP hS (lv_sub hl [0, 1] rfl) hf
          · rw [if_pos hc12] at hf
            refine lv_iconst (v := (1 : Int32)) hx hb dX9_rises_106 (by decide) ?_
            refine lv_goto (tgt := 111) hx hb dX9_rises_107 (by decide) ?_
            exact blk111 _ _ now x2 x2 x4 x2 (1 : Int32) ls hP hS (lv_sub hl [0, 1] rfl) hf
        · rw [if_pos hc11] at hf
          refine lv_aload_n hx hb dX9_rises_77 rfl (lv_at hl 0 rfl) ?_
          refine lv_iload hx hb dX9_rises_78 (lv_at hl 3 rfl) ?_
          refine lv_iconst (v := (1 : Int32)) hx hb dX9_rises_80 (by decide) ?_
          obtain ⟨q13, hq13, hf⟩ := obE hf
          refine ct_cVv (rest := []) (tX9_ranks hD hq13) hx hb hml hown ht hX hP hS wX9_ranks kML_RX9_103 rfl rfl ⟨Nat.le_of_ble_eq_true rfl, Nat.le_of_ble_eq_true rfl⟩ (va_recv hX.1 hP rfl mw_obj) rfl hl.1 rfl (Nat.le_of_ble_eq_true rfl) dX9_rises_81 (fun H locs hP hS => ?_)
          refine lv_aload_n hx hb dX9_rises_84 rfl (lv_at hl 0 rfl) ?_
          refine lv_iconst (v := (0 : Int32)) hx hb dX9_rises_85 (by decide) ?_
          obtain ⟨q14, hq14, hf⟩ := obE hf
          refine ct_cVv (rest := []) (tX9_counts hD hq14) hx hb hml hown ht hX hP hS wX9_counts kML_RX9_79 rfl rfl ⟨Nat.le_of_ble_eq_true rfl, Nat.le_of_ble_eq_true rfl⟩ (va_recv hX.1 hP rfl mw_obj) rfl hl.1 rfl (Nat.le_of_ble_eq_true rfl) dX9_rises_86 (fun H locs hP hS => ?_)
          refine lv_iload hx hb dX9_rises_89 (lv_at hl 3 rfl) ?_
          refine lv_istore_n (lv' := [(2, .int x4), (0, .ref (ad 0)), (3, .int x3), (4, .int x4), (5, .int x5)]) hx hb dX9_rises_91 rfl hl (by decide) rfl (fun ls hl => ?_)
          refine lv_goto (tgt := 119) hx hb dX9_rises_92 (by decide) ?_
          refine lv_goto (tgt := 4) hx hb dX9_rises_119 (by decide) ?_
          exact ih4 _ _ q14 x4 x3 ls hP hS (lv_sub hl [1, 0, 2] rfl) hf
      have blk37 : ∀ (H : Heap) (locs : List Loc) (now : Nat → Int32) (x2 : Int32) (x4 : Int32) (y0 : Int32) (ls : Array Slot), va_P D vwCl (mw cI cZ ad un sd now past images iseed kept order numof above pile aside fewest deep keys worths) H → va_S (gA 15 ad) s.heap H locs → lv_has ls 6 [(0, .ref (ad 0)), (2, .int x2), (4, .int x4)] → fX9_rises_37 F (fun now x2 x3 => fX9_rises_4 F n4 now x2 x3) now x2 x4 y0 = some res → W p l e rX9_rises s m args below meth c H locs 0 0 Q (F0 m 37 ls [.int y0]) := by
        intro H locs now x2 x4 y0 ls hP hS hl hf
        unfold fX9_rises_37 at hf
        refine lv_istore_n (lv' := [(3, .int y0), (0, .ref (ad 0)), (2, .int x2), (4, .int x4)]) hx hb dX9_rises_37 rfl hl (by decide) rfl (fun ls hl => ?_)
        refine lv_iload_n hx hb dX9_rises_38 rfl (lv_at hl 0 rfl) ?_
        refine lv_if_eq (tgt := 119) hx hb dX9_rises_39 (by decide) (fun hc6 => ?_) (fun hc6 => ?_)
        · rw [if_pos hc6] at hf
          refine lv_goto (tgt := 4) hx hb dX9_rises_119 (by decide) ?_
          exact ih4 _ _ now x2 y0 ls hP hS (lv_sub hl [1, 2, 0] rfl) hf
        · rw [if_neg hc6] at hf
          refine lv_aload_n hx hb dX9_rises_42 rfl (lv_at hl 1 rfl) ?_
          refine lv_iload hx hb dX9_rises_43 (lv_at hl 3 rfl) ?_
          refine lv_iload_n hx hb dX9_rises_45 rfl (lv_at hl 2 rfl) ?_
          obtain ⟨q7, hq7, hf⟩ := obE hf
          refine ct_cVi (rest := []) (tX9_isLeftOf hD hq7) hx hb hml hown ht hX hP hS wX9_isLeftOf kML_RX9_67 rfl rfl ⟨Nat.le_of_ble_eq_true rfl, Nat.le_of_ble_eq_true rfl⟩ (va_recv hX.1 hP rfl mw_obj) rfl hl.1 rfl (Nat.le_of_ble_eq_true rfl) dX9_rises_46 (fun H locs hP hS => ?_)
          refine lv_istore (lv' := [(5, .int q7), (3, .int y0), (0, .ref (ad 0)), (2, .int x2), (4, .int x4)]) hx hb dX9_rises_49 hl (by decide) rfl (fun ls hl => ?_)
          refine lv_aload_n hx hb dX9_rises_51 rfl (lv_at hl 2 rfl) ?_
          refine lv_iload hx hb dX9_rises_52 (lv_at hl 4 rfl) ?_
          refine lv_aload_n hx hb dX9_rises_54 rfl (lv_at hl 2 rfl) ?_
          refine lv_iload hx hb dX9_rises_55 (lv_at hl 4 rfl) ?_
          refine lv_iload hx hb dX9_rises_57 (lv_at hl 0 rfl) ?_
          refine lv_if_ne (tgt := 66) hx hb dX9_rises_59 (by decide) (fun hc8 => ?_) (fun hc8 => ?_)
          · rw [if_neg hc8] at hf
            refine lv_iconst (v := (0 : Int32)) hx hb dX9_rises_66 (by decide) ?_
            exact blk67 _ _ now x2 y0 x4 q7 x4 x4 (0 : Int32) ls hP hS (lv_sub hl [2, 3, 1, 4, 0] rfl) hf
          · rw [if_pos hc8] at hf
            refine lv_iconst (v := (1 : Int32)) hx hb dX9_rises_62 (by decide) ?_
            refine lv_goto (tgt := 67) hx hb dX9_rises_63 (by decide) ?_
            exact blk67 _ _ now x2 y0 x4 q7 x4 x4 (1 : Int32) ls hP hS (lv_sub hl [2, 3, 1, 4, 0] rfl) hf
      have blk36 : ∀ (H : Heap) (locs : List Loc) (now : Nat → Int32) (x2 : Int32) (x4 : Int32) (ls : Array Slot), va_P D vwCl (mw cI cZ ad un sd now past images iseed kept order numof above pile aside fewest deep keys worths) H → va_S (gA 15 ad) s.heap H locs → lv_has ls 6 [(0, .ref (ad 0)), (2, .int x2), (4, .int x4)] → fX9_rises_36 F (fun now x2 x3 => fX9_rises_4 F n4 now x2 x3) now x2 x4 = some res → W p l e rX9_rises s m args below meth c H locs 0 0 Q (F0 m 36 ls []) := by
        intro H locs now x2 x4 ls hP hS hl hf
        unfold fX9_rises_36 at hf
        refine lv_iconst (v := (0 : Int32)) hx hb dX9_rises_36 (by decide) ?_
        exact blk37 _ _ now x2 x4 (0 : Int32) ls hP hS (lv_sub hl [0, 1, 2] rfl) hf
      intro H locs now x2 x3 ls hP hS hl hf
      rw [fX9_rises_4] at hf
      refine lv_iload_n hx hb dX9_rises_4 rfl (lv_at hl 2 rfl) ?_
      refine lv_if_eq (tgt := 122) hx hb dX9_rises_5 (by decide) (fun hc1 => ?_) (fun hc1 => ?_)
      · rw [if_pos hc1] at hf
        have e0 := Option.some.inj hf
        subst e0
        exact hret _ _ _ _ hP hS dX9_rises_122
      · rw [if_neg hc1] at hf
        refine lv_aload_n hx hb dX9_rises_8 rfl (lv_at hl 0 rfl) ?_
        refine lv_iload_n hx hb dX9_rises_9 rfl (lv_at hl 1 rfl) ?_
        refine lv_iconst (v := (5 : Int32)) hx hb dX9_rises_10 (by decide) ?_
        obtain ⟨q2, hq2, hf⟩ := obE hf
        refine ct_cVi (rest := []) (tX9_of hD hq2) hx hb hml hown ht hX hP hS wX9_of kML_RX9_63 rfl rfl ⟨Nat.le_of_ble_eq_true rfl, Nat.le_of_ble_eq_true rfl⟩ (va_recv hX.1 hP rfl mw_obj) rfl hl.1 rfl (Nat.le_of_ble_eq_true rfl) dX9_rises_11 (fun H locs hP hS => ?_)
        refine lv_istore (lv' := [(4, .int q2), (0, .ref (ad 0)), (2, .int x2), (3, .int x3)]) hx hb dX9_rises_14 hl (by decide) rfl (fun ls hl => ?_)
        refine lv_iload hx hb dX9_rises_16 (lv_at hl 0 rfl) ?_
        refine lv_iconst (v := (-1 : Int32)) hx hb dX9_rises_18 (by decide) ?_
        refine lv_icmp_eq (tgt := 36) hx hb dX9_rises_19 (by decide) (fun hc3 => ?_) (fun hc3 => ?_)
        · rw [if_pos hc3] at hf
          exact blk36 _ _ now x2 q2 ls hP hS (lv_sub hl [1, 2, 0] rfl) hf
        · rw [if_neg hc3] at hf
          refine lv_aload_n hx hb dX9_rises_22 rfl (lv_at hl 1 rfl) ?_
          refine lv_iload hx hb dX9_rises_23 (lv_at hl 0 rfl) ?_
          refine lv_iload_n hx hb dX9_rises_25 rfl (lv_at hl 2 rfl) ?_
          obtain ⟨q4, hq4, hf⟩ := obE hf
          refine ct_cVi (rest := []) (tX9_step hD hq4) hx hb hml hown ht hX hP hS wX9_step kML_RX9_100 rfl rfl ⟨Nat.le_of_ble_eq_true rfl, Nat.le_of_ble_eq_true rfl⟩ (va_recv hX.1 hP rfl mw_obj) rfl hl.1 rfl (Nat.le_of_ble_eq_true rfl) dX9_rises_26 (fun H locs hP hS => ?_)
          refine lv_if_ne (tgt := 36) hx hb dX9_rises_29 (by decide) (fun hc5 => ?_) (fun hc5 => ?_)
          · rw [if_neg hc5] at hf
            exact blk36 _ _ now x2 q2 ls hP hS (lv_sub hl [1, 2, 0] rfl) hf
          · rw [if_pos hc5] at hf
            refine lv_iconst (v := (1 : Int32)) hx hb dX9_rises_32 (by decide) ?_
            refine lv_goto (tgt := 37) hx hb dX9_rises_33 (by decide) ?_
            exact blk37 _ _ now x2 q2 (1 : Int32) ls hP hS (lv_sub hl [1, 2, 0] rfl) hf
  unfold fX9_rises at hf
  refine lv_iload_n hx hb dX9_rises_0 rfl (lv_at hl 1 rfl) ?_
  refine lv_istore_n (lv' := [(2, .int x1), (0, .ref (ad 0)), (1, .int x1)]) hx hb dX9_rises_1 rfl hl (by decide) rfl (fun ls hl => ?_)
  refine lv_iconst (v := (1 : Int32)) hx hb dX9_rises_2 (by decide) ?_
  refine lv_istore_n (lv' := [(3, .int ((1 : Int32))), (2, .int x1), (0, .ref (ad 0)), (1, .int x1)]) hx hb dX9_rises_3 rfl hl (by decide) rfl (fun ls hl => ?_)
  exact blk4 F _ _ now x1 (1 : Int32) ls hP hS (lv_sub hl [2, 1, 0] rfl) hf
def fX9_puts_115 (F : Nat) (now : Nat → Int32) (x3 : Int32) (y1 : Int32) (y2 : Int32) : Option ((Nat → Int32)) := (fX9_hangs F now y1 y2 x3).bind fun q17 => (if (361 : Int32) < 0 ∨ 368 ≤ (361 : Int32).toNatClampNeg then none else (if (361 : Int32) < 0 ∨ 368 ≤ (361 : Int32).toNatClampNeg then none else ((fX9_rises F (upd q17 (361 : Int32).toNatClampNeg ((q17 (361 : Int32).toNatClampNeg) + (1 : Int32))) x3).bind fun q20 => (some q20))))
def fX9_puts_114 (F : Nat) (now : Nat → Int32) (x3 : Int32) (y1 : Int32) : Option ((Nat → Int32)) := fX9_puts_115 F now x3 y1 (0 : Int32)
def fX9_puts_18 (F : Nat) : Nat → (Nat → Int32) → Int32 → Int32 → Int32 → Int32 → Int32 → Option ((Nat → Int32))
  | 0, _, _, _, _, _, _ => none
  | n + 1, now, x1, x2, x3, x4, x5 => if x5 = (-1 : Int32) then ((fX9_lays F now x3 (0 : Int32) x1).bind fun q5 => ((fX9_lays F q5 x3 (1 : Int32) x2).bind fun q6 => ((fX9_lays F q6 x3 (2 : Int32) (0 : Int32)).bind fun q7 => ((fX9_lays F q7 x3 (3 : Int32) (-1 : Int32)).bind fun q8 => ((fX9_lays F q8 x3 (4 : Int32) (-1 : Int32)).bind fun q9 => (if x4 = (-1 : Int32) then (fX9_puts_114 F q9 x3 x4) else ((fX9_of F q9 x4 (0 : Int32)).bind fun q11 => (if q11 ≤ x1 then (fX9_puts_114 F q9 x3 x4) else (fX9_puts_115 F q9 x3 x4 (1 : Int32)))))))))) else ((fX9_of F now x5 (0 : Int32)).bind fun q13 => (if q13 ≤ x1 then ((fX9_child F now x5 (0 : Int32)).bind fun q15 => (fX9_puts_18 F n now x1 x2 x3 x5 q15)) else ((fX9_child F now x5 (1 : Int32)).bind fun q16 => (fX9_puts_18 F n now x1 x2 x3 x5 q16))))
def fX9_puts (F : Nat) (now : Nat → Int32) (x1 : Int32) (x2 : Int32) : Option ((Nat → Int32)) := (fX9_freeOne F now).bind fun q1 => ((fX9_top F now).bind fun q2 => ((fX9_begins F now).bind fun q3 => (fX9_puts_18 F F q3 x1 x2 q1 (-1 : Int32) q2)))
abbrev rX9_puts : Room := { frames := 5, cells := 0, slots := 0, locals := 120 }
theorem wX9_puts : kV yX9_puts cX9_puts 6 none 2 := ⟨kCO_yX9_puts, kIM_yX9_puts, kSE_yX9_puts, kIN_RX9, by decide +kernel, by decide +kernel, by decide +kernel⟩
set_option maxHeartbeats 4000000 in
set_option maxRecDepth 100000 in
theorem tX9_puts {l : Launch} {D : va_G} {cI cZ : ClassId} {ad : Nat → Nat} (hD : gInj 15 ad) {F : Nat} {un sd : Int32} {now past images iseed kept order numof above pile aside fewest deep keys worths : Nat → Int32} {x1 : Int32} {x2 : Int32} {res : (Nat → Int32)} (hf : fX9_puts F now x1 x2 = some res) : CTv l yX9_puts cX9_puts 6 rX9_puts D (mTy cI cZ) (gA 15 ad) [.ref (ad 0), .int x1, .int x2] (mw cI cZ ad un sd now past images iseed kept order numof above pile aside fewest deep keys worths) (mw cI cZ ad un sd res past images iseed kept order numof above pile aside fewest deep keys worths) := by
  refine ct_void (by decide) (Nat.le_of_ble_eq_true rfl) ?_
  intro p e s m args below meth c Q ls hx hb hml hown ht hX hret hP hS hl
  have hl : lv_has ls 6 [(0, .ref (ad 0)), (1, .int x1), (2, .int x2)] := hl
  have blk115 : ∀ (H : Heap) (locs : List Loc) (now : Nat → Int32) (x3 : Int32) (y1 : Int32) (y2 : Int32) (ls : Array Slot), va_P D vwCl (mw cI cZ ad un sd now past images iseed kept order numof above pile aside fewest deep keys worths) H → va_S (gA 15 ad) s.heap H locs → lv_has ls 6 [(0, .ref (ad 0)), (3, .int x3)] → fX9_puts_115 F now x3 y1 y2 = some res → W p l e rX9_puts s m args below meth c H locs 0 0 Q (F0 m 115 ls [.int y2, .int y1, .ref (ad 0)]) := by
    intro H locs now x3 y1 y2 ls hP hS hl hf
    unfold fX9_puts_115 at hf
    refine lv_iload_n hx hb dX9_puts_115 rfl (lv_at hl 1 rfl) ?_
    obtain ⟨q17, hq17, hf⟩ := obE hf
    refine ct_cVv (rest := []) (tX9_hangs hD hq17) hx hb hml hown ht hX hP hS wX9_hangs kML_RX9_75 rfl rfl ⟨Nat.le_of_ble_eq_true rfl, Nat.le_of_ble_eq_true rfl⟩ (va_recv hX.1 hP rfl mw_obj) rfl hl.1 rfl (Nat.le_of_ble_eq_true rfl) dX9_puts_116 (fun H locs hP hS => ?_)
    refine lv_aload_n hx hb dX9_puts_119 rfl (lv_at hl 0 rfl) ?_
    refine va_get (ci := 7) (v := .ref (ad 1)) hx hb ht i_X9 hown hX.1 hP 0 mw_obj rfl 0 (by decide) (ht _ kFL_RX9_7) (fun _ h9 => h9) rfl dX9_puts_120 ?_
    refine lv_sipush (v := (361 : Int32)) hx hb dX9_puts_123 (by decide) ?_
    refine lv_dup2_11 hx hb dX9_puts_126 rfl rfl ?_
    obtain ⟨hn18, hf⟩ := ngE _ hf
    refine va_iald hx hb hX.1 hP 1 0 mw_now rfl hn18 dX9_puts_127 ?_
    refine lv_iconst (v := (1 : Int32)) hx hb dX9_puts_128 (by decide) ?_
    refine lv_iadd hx hb dX9_puts_129 ?_
    obtain ⟨hn19, hf⟩ := ngE _ hf
    refine va_iast hx hb hX.1 hP (gw_D hD _) hS 1 0 mw_now rfl hn19 dX9_puts_130 (fun H locs hP _ hS => ?_)
    rw [mw_set_now] at hP
    refine lv_aload_n hx hb dX9_puts_131 rfl (lv_at hl 0 rfl) ?_
    refine lv_iload_n hx hb dX9_puts_132 rfl (lv_at hl 1 rfl) ?_
    obtain ⟨q20, hq20, hf⟩ := obE hf
    refine ct_cVv (rest := []) (tX9_rises hD hq20) hx hb hml hown ht hX hP hS wX9_rises kML_RX9_97 rfl rfl ⟨Nat.le_of_ble_eq_true rfl, Nat.le_of_ble_eq_true rfl⟩ (va_recv hX.1 hP rfl mw_obj) rfl hl.1 rfl (Nat.le_of_ble_eq_true rfl) dX9_puts_133 (fun H locs hP hS => ?_)
    have e0 := Option.some.inj hf
    subst e0
    exact hret _ _ _ _ hP hS dX9_puts_136
  have blk114 : ∀ (H : Heap) (locs : List Loc) (now : Nat → Int32) (x3 : Int32) (y1 : Int32) (ls : Array Slot), va_P D vwCl (mw cI cZ ad un sd now past images iseed kept order numof above pile aside fewest deep keys worths) H → va_S (gA 15 ad) s.heap H locs → lv_has ls 6 [(0, .ref (ad 0)), (3, .int x3)] → fX9_puts_114 F now x3 y1 = some res → W p l e rX9_puts s m args below meth c H locs 0 0 Q (F0 m 114 ls [.int y1, .ref (ad 0)]) := by
    intro H locs now x3 y1 ls hP hS hl hf
    unfold fX9_puts_114 at hf
    refine lv_iconst (v := (0 : Int32)) hx hb dX9_puts_114 (by decide) ?_
    exact blk115 _ _ now x3 y1 (0 : Int32) ls hP hS (lv_sub hl [0, 1] rfl) hf
  have blk18 : ∀ (n18 : Nat) (H : Heap) (locs : List Loc) (now : Nat → Int32) (x1 : Int32) (x2 : Int32) (x3 : Int32) (x4 : Int32) (x5 : Int32) (ls : Array Slot), va_P D vwCl (mw cI cZ ad un sd now past images iseed kept order numof above pile aside fewest deep keys worths) H → va_S (gA 15 ad) s.heap H locs → lv_has ls 6 [(0, .ref (ad 0)), (1, .int x1), (2, .int x2), (3, .int x3), (4, .int x4), (5, .int x5)] → fX9_puts_18 F n18 now x1 x2 x3 x4 x5 = some res → W p l e rX9_puts s m args below meth c H locs 0 0 Q (F0 m 18 ls []) := by
    intro n18
    induction n18 with
    | zero =>
      intro H locs now x1 x2 x3 x4 x5 ls hP hS hl hf
      rw [fX9_puts_18] at hf
      cases hf
    | succ n18 ih18 =>
      skip
      intro H locs now x1 x2 x3 x4 x5 ls hP hS hl hf
      rw [fX9_puts_18] at hf
      refine lv_iload hx hb dX9_puts_18 (lv_at hl 5 rfl) ?_
      refine lv_iconst (v := (-1 : Int32)) hx hb dX9_puts_20 (by decide) ?_
      refine lv_icmp_eq (tgt := 55) hx hb dX9_puts_21 (by decide) (fun hc4 => ?_) (fun hc4 => ?_)
      · rw [if_pos hc4] at hf
        refine lv_aload_n hx hb dX9_puts_55 rfl (lv_at hl 0 rfl) ?_
        refine lv_iload_n hx hb dX9_puts_56 rfl (lv_at hl 3 rfl) ?_
        refine lv_iconst (v := (0 : Int32)) hx hb dX9_puts_57 (by decide) ?_
        refine lv_iload_n hx hb dX9_puts_58 rfl (lv_at hl 1 rfl) ?_
        obtain ⟨q5, hq5, hf⟩ := obE hf
        refine ct_cVv (rest := []) (tX9_lays hD hq5) hx hb hml hown ht hX hP hS wX9_lays kML_RX9_56 rfl rfl ⟨Nat.le_of_ble_eq_true rfl, Nat.le_of_ble_eq_true rfl⟩ (va_recv hX.1 hP rfl mw_obj) rfl hl.1 rfl (Nat.le_of_ble_eq_true rfl) dX9_puts_59 (fun H locs hP hS => ?_)
        refine lv_aload_n hx hb dX9_puts_62 rfl (lv_at hl 0 rfl) ?_
        refine lv_iload_n hx hb dX9_puts_63 rfl (lv_at hl 3 rfl) ?_
        refine lv_iconst (v := (1 : Int32)) hx hb dX9_puts_64 (by decide) ?_
        refine lv_iload_n hx hb dX9_puts_65 rfl (lv_at hl 2 rfl) ?_
        obtain ⟨q6, hq6, hf⟩ := obE hf
        refine ct_cVv (rest := []) (tX9_lays hD hq6) hx hb hml hown ht hX hP hS wX9_lays kML_RX9_56 rfl rfl ⟨Nat.le_of_ble_eq_true rfl, Nat.le_of_ble_eq_true rfl⟩ (va_recv hX.1 hP rfl mw_obj) rfl hl.1 rfl (Nat.le_of_ble_eq_true rfl) dX9_puts_66 (fun H locs hP hS => ?_)
        refine lv_aload_n hx hb dX9_puts_69 rfl (lv_at hl 0 rfl) ?_
        refine lv_iload_n hx hb dX9_puts_70 rfl (lv_at hl 3 rfl) ?_
        refine lv_iconst (v := (2 : Int32)) hx hb dX9_puts_71 (by decide) ?_
        refine lv_iconst (v := (0 : Int32)) hx hb dX9_puts_72 (by decide) ?_
        obtain ⟨q7, hq7, hf⟩ := obE hf
        refine ct_cVv (rest := []) (tX9_lays hD hq7) hx hb hml hown ht hX hP hS wX9_lays kML_RX9_56 rfl rfl ⟨Nat.le_of_ble_eq_true rfl, Nat.le_of_ble_eq_true rfl⟩ (va_recv hX.1 hP rfl mw_obj) rfl hl.1 rfl (Nat.le_of_ble_eq_true rfl) dX9_puts_73 (fun H locs hP hS => ?_)
        refine lv_aload_n hx hb dX9_puts_76 rfl (lv_at hl 0 rfl) ?_
        refine lv_iload_n hx hb dX9_puts_77 rfl (lv_at hl 3 rfl) ?_
        refine lv_iconst (v := (3 : Int32)) hx hb dX9_puts_78 (by decide) ?_
        refine lv_iconst (v := (-1 : Int32)) hx hb dX9_puts_79 (by decide) ?_
        obtain ⟨q8, hq8, hf⟩ := obE hf
        refine ct_cVv (rest := []) (tX9_lays hD hq8) hx hb hml hown ht hX hP hS wX9_lays kML_RX9_56 rfl rfl ⟨Nat.le_of_ble_eq_true rfl, Nat.le_of_ble_eq_true rfl⟩ (va_recv hX.1 hP rfl mw_obj) rfl hl.1 rfl (Nat.le_of_ble_eq_true rfl) dX9_puts_80 (fun H locs hP hS => ?_)
        refine lv_aload_n hx hb dX9_puts_83 rfl (lv_at hl 0 rfl) ?_
        refine lv_iload_n hx hb dX9_puts_84 rfl (lv_at hl 3 rfl) ?_
        refine lv_iconst (v := (4 : Int32)) hx hb dX9_puts_85 (by decide) ?_
        refine lv_iconst (v := (-1 : Int32)) hx hb dX9_puts_86 (by decide) ?_
        obtain ⟨q9, hq9, hf⟩ := obE hf
        refine ct_cVv (rest := []) (tX9_lays hD hq9) hx hb hml hown ht hX hP hS wX9_lays kML_RX9_56 rfl rfl ⟨Nat.le_of_ble_eq_true rfl, Nat.le_of_ble_eq_true rfl⟩ (va_recv hX.1 hP rfl mw_obj) rfl hl.1 rfl (Nat.le_of_ble_eq_true rfl) dX9_puts_87 (fun H locs hP hS => ?_)
        refine lv_aload_n hx hb dX9_puts_90 rfl (lv_at hl 0 rfl) ?_
        refine lv_iload hx hb dX9_puts_91 (lv_at hl 4 rfl) ?_
        refine lv_iload hx hb dX9_puts_93 (lv_at hl 4 rfl) ?_
        refine lv_iconst (v := (-1 : Int32)) hx hb dX9_puts_95 (by decide) ?_
        refine lv_icmp_eq (tgt := 114) hx hb dX9_puts_96 (by decide) (fun hc10 => ?_) (fun hc10 => ?_)
        · rw [if_pos hc10] at hf
          exact blk114 _ _ q9 x3 x4 ls hP hS (lv_sub hl [0, 3] rfl) hf
        · rw [if_neg hc10] at hf
          refine lv_iload_n hx hb dX9_puts_99 rfl (lv_at hl 1 rfl) ?_
          refine lv_aload_n hx hb dX9_puts_100 rfl (lv_at hl 0 rfl) ?_
          refine lv_iload hx hb dX9_puts_101 (lv_at hl 4 rfl) ?_
          refine lv_iconst (v := (0 : Int32)) hx hb dX9_puts_103 (by decide) ?_
          obtain ⟨q11, hq11, hf⟩ := obE hf
          refine ct_cVi (rest := [.int x1, .int x4, .ref (ad 0)]) (tX9_of hD hq11) hx hb hml hown ht hX hP hS wX9_of kML_RX9_63 rfl rfl ⟨Nat.le_of_ble_eq_true rfl, Nat.le_of_ble_eq_true rfl⟩ (va_recv hX.1 hP rfl mw_obj) rfl hl.1 rfl (Nat.le_of_ble_eq_true rfl) dX9_puts_104 (fun H locs hP hS => ?_)
          refine lv_icmp_ge (tgt := 114) hx hb dX9_puts_107 (by decide) (fun hc12 => ?_) (fun hc12 => ?_)
          · rw [if_pos hc12] at hf
            exact blk114 _ _ q9 x3 x4 ls hP hS (lv_sub hl [0, 3] rfl) hf
          · rw [if_neg hc12] at hf
            refine lv_iconst (v := (1 : Int32)) hx hb dX9_puts_110 (by decide) ?_
            refine lv_goto (tgt := 115) hx hb dX9_puts_111 (by decide) ?_
            exact blk115 _ _ q9 x3 x4 (1 : Int32) ls hP hS (lv_sub hl [0, 3] rfl) hf
      · rw [if_neg hc4] at hf
        refine lv_iload hx hb dX9_puts_24 (lv_at hl 5 rfl) ?_
        refine lv_istore (lv' := [(4, .int x5), (0, .ref (ad 0)), (1, .int x1), (2, .int x2), (3, .int x3), (5, .int x5)]) hx hb dX9_puts_26 hl (by decide) rfl (fun ls hl => ?_)
        refine lv_aload_n hx hb dX9_puts_28 rfl (lv_at hl 1 rfl) ?_
        refine lv_iload hx hb dX9_puts_29 (lv_at hl 5 rfl) ?_
        refine lv_iload_n hx hb dX9_puts_31 rfl (lv_at hl 2 rfl) ?_
        refine lv_aload_n hx hb dX9_puts_32 rfl (lv_at hl 1 rfl) ?_
        refine lv_iload hx hb dX9_puts_33 (lv_at hl 5 rfl) ?_
        refine lv_iconst (v := (0 : Int32)) hx hb dX9_puts_35 (by decide) ?_
        obtain ⟨q13, hq13, hf⟩ := obE hf
        refine ct_cVi (rest := [.int x1, .int x5, .ref (ad 0)]) (tX9_of hD hq13) hx hb hml hown ht hX hP hS wX9_of kML_RX9_63 rfl rfl ⟨Nat.le_of_ble_eq_true rfl, Nat.le_of_ble_eq_true rfl⟩ (va_recv hX.1 hP rfl mw_obj) rfl hl.1 rfl (Nat.le_of_ble_eq_true rfl) dX9_puts_36 (fun H locs hP hS => ?_)
        refine lv_icmp_ge (tgt := 46) hx hb dX9_puts_39 (by decide) (fun hc14 => ?_) (fun hc14 => ?_)
        · rw [if_pos hc14] at hf
          refine lv_iconst (v := (0 : Int32)) hx hb dX9_puts_46 (by decide) ?_
          obtain ⟨q15, hq15, hf⟩ := obE hf
          refine ct_cVi (rest := []) (tX9_child hD hq15) hx hb hml hown ht hX hP hS wX9_child kML_RX9_71 rfl rfl ⟨Nat.le_of_ble_eq_true rfl, Nat.le_of_ble_eq_true rfl⟩ (va_recv hX.1 hP rfl mw_obj) rfl hl.1 rfl (Nat.le_of_ble_eq_true rfl) dX9_puts_47 (fun H locs hP hS => ?_)
          refine lv_istore (lv' := [(5, .int q15), (4, .int x5), (0, .ref (ad 0)), (1, .int x1), (2, .int x2), (3, .int x3)]) hx hb dX9_puts_50 hl (by decide) rfl (fun ls hl => ?_)
          refine lv_goto (tgt := 18) hx hb dX9_puts_52 (by decide) ?_
          exact ih18 _ _ now x1 x2 x3 x5 q15 ls hP hS (lv_sub hl [2, 3, 4, 5, 1, 0] rfl) hf
        · rw [if_neg hc14] at hf
          refine lv_iconst (v := (1 : Int32)) hx hb dX9_puts_42 (by decide) ?_
          refine lv_goto (tgt := 47) hx hb dX9_puts_43 (by decide) ?_
          obtain ⟨q16, hq16, hf⟩ := obE hf
          refine ct_cVi (rest := []) (tX9_child hD hq16) hx hb hml hown ht hX hP hS wX9_child kML_RX9_71 rfl rfl ⟨Nat.le_of_ble_eq_true rfl, Nat.le_of_ble_eq_true rfl⟩ (va_recv hX.1 hP rfl mw_obj) rfl hl.1 rfl (Nat.le_of_ble_eq_true rfl) dX9_puts_47 (fun H locs hP hS => ?_)
          refine lv_istore (lv' := [(5, .int q16), (4, .int x5), (0, .ref (ad 0)), (1, .int x1), (2, .int x2), (3, .int x3)]) hx hb dX9_puts_50 hl (by decide) rfl (fun ls hl => ?_)
          refine lv_goto (tgt := 18) hx hb dX9_puts_52 (by decide) ?_
          exact ih18 _ _ now x1 x2 x3 x5 q16 ls hP hS (lv_sub hl [2, 3, 4, 5, 1, 0] rfl) hf
  unfold fX9_puts at hf
  refine lv_aload_n hx hb dX9_puts_0 rfl (lv_at hl 0 rfl) ?_
  obtain ⟨q1, hq1, hf⟩ := obE hf
  refine ct_cVi (rest := []) (tX9_freeOne hD hq1) hx hb hml hown ht hX hP hS wX9_freeOne kML_RX9_91 rfl rfl ⟨Nat.le_of_ble_eq_true rfl, Nat.le_of_ble_eq_true rfl⟩ (va_recv hX.1 hP rfl mw_obj) rfl hl.1 rfl (Nat.le_of_ble_eq_true rfl) dX9_puts_1 (fun H locs hP hS => ?_)
  refine lv_istore_n (lv' := [(3, .int q1), (0, .ref (ad 0)), (1, .int x1), (2, .int x2)]) hx hb dX9_puts_4 rfl hl (by decide) rfl (fun ls hl => ?_)
  refine lv_iconst (v := (-1 : Int32)) hx hb dX9_puts_5 (by decide) ?_
  refine lv_istore (lv' := [(4, .int ((-1 : Int32))), (3, .int q1), (0, .ref (ad 0)), (1, .int x1), (2, .int x2)]) hx hb dX9_puts_6 hl (by decide) rfl (fun ls hl => ?_)
  refine lv_aload_n hx hb dX9_puts_8 rfl (lv_at hl 2 rfl) ?_
  obtain ⟨q2, hq2, hf⟩ := obE hf
  refine ct_cVi (rest := []) (tX9_top hD hq2) hx hb hml hown ht hX hP hS wX9_top kML_RX9_87 rfl rfl ⟨Nat.le_of_ble_eq_true rfl, Nat.le_of_ble_eq_true rfl⟩ (va_recv hX.1 hP rfl mw_obj) rfl hl.1 rfl (Nat.le_of_ble_eq_true rfl) dX9_puts_9 (fun H locs hP hS => ?_)
  refine lv_istore (lv' := [(5, .int q2), (4, .int ((-1 : Int32))), (3, .int q1), (0, .ref (ad 0)), (1, .int x1), (2, .int x2)]) hx hb dX9_puts_12 hl (by decide) rfl (fun ls hl => ?_)
  refine lv_aload_n hx hb dX9_puts_14 rfl (lv_at hl 3 rfl) ?_
  obtain ⟨q3, hq3, hf⟩ := obE hf
  refine ct_cVv (rest := []) (tX9_begins hD hq3) hx hb hml hown ht hX hP hS wX9_begins kML_RX9_94 rfl rfl ⟨Nat.le_of_ble_eq_true rfl, Nat.le_of_ble_eq_true rfl⟩ (va_recv hX.1 hP rfl mw_obj) rfl hl.1 rfl (Nat.le_of_ble_eq_true rfl) dX9_puts_15 (fun H locs hP hS => ?_)
  exact blk18 F _ _ q3 x1 x2 q1 (-1 : Int32) q2 ls hP hS (lv_sub hl [3, 4, 5, 2, 1, 0] rfl) hf
def fX9_leastBelow_2 (F : Nat) (now : Nat → Int32) : Nat → Int32 → Option (Int32)
  | 0, _ => none
  | n + 1, x2 => (fX9_of F now x2 (3 : Int32)).bind fun q1 => (if q1 = (-1 : Int32) then (some x2) else ((fX9_of F now x2 (3 : Int32)).bind fun q3 => (fX9_leastBelow_2 F now n q3)))
def fX9_leastBelow (F : Nat) (now : Nat → Int32) (x1 : Int32) : Option (Int32) := fX9_leastBelow_2 F now F x1
abbrev rX9_leastBelow : Room := { frames := 1, cells := 0, slots := 0, locals := 22 }
theorem wX9_leastBelow : kV yX9_leastBelow cX9_leastBelow 3 (some .int) 1 := ⟨kCO_yX9_leastBelow, kIM_yX9_leastBelow, kSE_yX9_leastBelow, kIN_RX9, by decide +kernel, by decide +kernel, by decide +kernel⟩
set_option maxHeartbeats 4000000 in
set_option maxRecDepth 100000 in
theorem tX9_leastBelow {l : Launch} {D : va_G} {cI cZ : ClassId} {ad : Nat → Nat} (hD : gInj 15 ad) {F : Nat} {un sd : Int32} {now past images iseed kept order numof above pile aside fewest deep keys worths : Nat → Int32} {x1 : Int32} {res : Int32} (hf : fX9_leastBelow F now x1 = some res) : CTi l yX9_leastBelow cX9_leastBelow 3 .int rX9_leastBelow D (mTy cI cZ) (gA 15 ad) [.ref (ad 0), .int x1] (mw cI cZ ad un sd now past images iseed kept order numof above pile aside fewest deep keys worths) res (mw cI cZ ad un sd now past images iseed kept order numof above pile aside fewest deep keys worths) := by
  refine ct_int (by decide) (Nat.le_of_ble_eq_true rfl) ?_
  intro p e s m args below meth c Q ls hx hb hml hown ht hX hret hP hS hl
  have hl : lv_has ls 3 [(0, .ref (ad 0)), (1, .int x1)] := hl
  have blk2 : ∀ (n2 : Nat) (H : Heap) (locs : List Loc) (x2 : Int32) (ls : Array Slot), va_P D vwCl (mw cI cZ ad un sd now past images iseed kept order numof above pile aside fewest deep keys worths) H → va_S (gA 15 ad) s.heap H locs → lv_has ls 3 [(0, .ref (ad 0)), (2, .int x2)] → fX9_leastBelow_2 F now n2 x2 = some res → W p l e rX9_leastBelow s m args below meth c H locs 0 0 Q (F0 m 2 ls []) := by
    intro n2
    induction n2 with
    | zero =>
      intro H locs x2 ls hP hS hl hf
      rw [fX9_leastBelow_2] at hf
      cases hf
    | succ n2 ih2 =>
      skip
      intro H locs x2 ls hP hS hl hf
      rw [fX9_leastBelow_2] at hf
      refine lv_aload_n hx hb dX9_leastBelow_2 rfl (lv_at hl 0 rfl) ?_
      refine lv_iload_n hx hb dX9_leastBelow_3 rfl (lv_at hl 1 rfl) ?_
      refine lv_iconst (v := (3 : Int32)) hx hb dX9_leastBelow_4 (by decide) ?_
      obtain ⟨q1, hq1, hf⟩ := obE hf
      refine ct_cVi (rest := []) (tX9_of hD hq1) hx hb hml hown ht hX hP hS wX9_of kML_RX9_63 rfl rfl ⟨Nat.le_of_ble_eq_true rfl, Nat.le_of_ble_eq_true rfl⟩ (va_recv hX.1 hP rfl mw_obj) rfl hl.1 rfl (Nat.le_of_ble_eq_true rfl) dX9_leastBelow_5 (fun H locs hP hS => ?_)
      refine lv_iconst (v := (-1 : Int32)) hx hb dX9_leastBelow_8 (by decide) ?_
      refine lv_icmp_eq (tgt := 22) hx hb dX9_leastBelow_9 (by decide) (fun hc2 => ?_) (fun hc2 => ?_)
      · rw [if_pos hc2] at hf
        refine lv_iload_n hx hb dX9_leastBelow_22 rfl (lv_at hl 1 rfl) ?_
        have e0 := Option.some.inj hf
        subst e0
        exact hret _ _ _ _ hP hS dX9_leastBelow_23
      · rw [if_neg hc2] at hf
        refine lv_aload_n hx hb dX9_leastBelow_12 rfl (lv_at hl 0 rfl) ?_
        refine lv_iload_n hx hb dX9_leastBelow_13 rfl (lv_at hl 1 rfl) ?_
        refine lv_iconst (v := (3 : Int32)) hx hb dX9_leastBelow_14 (by decide) ?_
        obtain ⟨q3, hq3, hf⟩ := obE hf
        refine ct_cVi (rest := []) (tX9_of hD hq3) hx hb hml hown ht hX hP hS wX9_of kML_RX9_63 rfl rfl ⟨Nat.le_of_ble_eq_true rfl, Nat.le_of_ble_eq_true rfl⟩ (va_recv hX.1 hP rfl mw_obj) rfl hl.1 rfl (Nat.le_of_ble_eq_true rfl) dX9_leastBelow_15 (fun H locs hP hS => ?_)
        refine lv_istore_n (lv' := [(2, .int q3), (0, .ref (ad 0))]) hx hb dX9_leastBelow_18 rfl hl (by decide) rfl (fun ls hl => ?_)
        refine lv_goto (tgt := 2) hx hb dX9_leastBelow_19 (by decide) ?_
        exact ih2 _ _ q3 ls hP hS (lv_sub hl [1, 0] rfl) hf
  unfold fX9_leastBelow at hf
  refine lv_iload_n hx hb dX9_leastBelow_0 rfl (lv_at hl 1 rfl) ?_
  refine lv_istore_n (lv' := [(2, .int x1), (0, .ref (ad 0)), (1, .int x1)]) hx hb dX9_leastBelow_1 rfl hl (by decide) rfl (fun ls hl => ?_)
  exact blk2 F _ _ x1 ls hP hS (lv_sub hl [1, 0] rfl) hf
def fX9_turnsDown_21 (F : Nat) (now : Nat → Int32) (x1 : Int32) (x2 : Int32) (x4 : Int32) (y1 : Int32) (y3 : Int32) (y4 : Int32) : Option ((Nat → Int32)) := (fX9_child F now y3 y4).bind fun q3 => ((fX9_step F now y1 q3).bind fun q4 => (if q4 = (1 : Int32) then ((fX9_turns F now x2).bind fun q11 => ((fX9_ranks F q11 x2 (1 : Int32)).bind fun q12 => ((fX9_ranks F q12 x1 (-1 : Int32)).bind fun q13 => ((fX9_hasNoChildren F q13 x1).bind fun q14 => (if q14 = 0 then (some q13) else ((fX9_ranks F q13 x1 (-1 : Int32)).bind fun q16 => (some q16))))))) else ((fX9_turns F now x4).bind fun q6 => ((fX9_turns F q6 x4).bind fun q7 => ((fX9_ranks F q7 x4 (2 : Int32)).bind fun q8 => ((fX9_ranks F q8 x2 (-1 : Int32)).bind fun q9 => ((fX9_ranks F q9 x1 (-2 : Int32)).bind fun q10 => (some q10))))))))
def fX9_turnsDown (F : Nat) (now : Nat → Int32) (x1 : Int32) (x2 : Int32) (x3 : Int32) : Option ((Nat → Int32)) := (fX9_child F now x2 x3).bind fun q1 => (if x3 = 0 then (fX9_turnsDown_21 F now x1 x2 q1 x2 x2 (1 : Int32)) else (fX9_turnsDown_21 F now x1 x2 q1 x2 x2 (0 : Int32)))
abbrev rX9_turnsDown : Room := { frames := 3, cells := 0, slots := 0, locals := 72 }
theorem wX9_turnsDown : kV yX9_turnsDown cX9_turnsDown 5 none 3 := ⟨kCO_yX9_turnsDown, kIM_yX9_turnsDown, kSE_yX9_turnsDown, kIN_RX9, by decide +kernel, by decide +kernel, by decide +kernel⟩
set_option maxHeartbeats 4000000 in
set_option maxRecDepth 100000 in
theorem tX9_turnsDown {l : Launch} {D : va_G} {cI cZ : ClassId} {ad : Nat → Nat} (hD : gInj 15 ad) {F : Nat} {un sd : Int32} {now past images iseed kept order numof above pile aside fewest deep keys worths : Nat → Int32} {x1 : Int32} {x2 : Int32} {x3 : Int32} {res : (Nat → Int32)} (hf : fX9_turnsDown F now x1 x2 x3 = some res) : CTv l yX9_turnsDown cX9_turnsDown 5 rX9_turnsDown D (mTy cI cZ) (gA 15 ad) [.ref (ad 0), .int x1, .int x2, .int x3] (mw cI cZ ad un sd now past images iseed kept order numof above pile aside fewest deep keys worths) (mw cI cZ ad un sd res past images iseed kept order numof above pile aside fewest deep keys worths) := by
  refine ct_void (by decide) (Nat.le_of_ble_eq_true rfl) ?_
  intro p e s m args below meth c Q ls hx hb hml hown ht hX hret hP hS hl
  have hl : lv_has ls 5 [(0, .ref (ad 0)), (1, .int x1), (2, .int x2), (3, .int x3)] := hl
  have blk21 : ∀ (H : Heap) (locs : List Loc) (now : Nat → Int32) (x1 : Int32) (x2 : Int32) (x4 : Int32) (y1 : Int32) (y3 : Int32) (y4 : Int32) (ls : Array Slot), va_P D vwCl (mw cI cZ ad un sd now past images iseed kept order numof above pile aside fewest deep keys worths) H → va_S (gA 15 ad) s.heap H locs → lv_has ls 5 [(0, .ref (ad 0)), (1, .int x1), (2, .int x2), (4, .int x4)] → fX9_turnsDown_21 F now x1 x2 x4 y1 y3 y4 = some res → W p l e rX9_turnsDown s m args below meth c H locs 0 0 Q (F0 m 21 ls [.int y4, .int y3, .ref (ad 0), .int y1, .ref (ad 0)]) := by
    intro H locs now x1 x2 x4 y1 y3 y4 ls hP hS hl hf
    unfold fX9_turnsDown_21 at hf
    obtain ⟨q3, hq3, hf⟩ := obE hf
    refine ct_cVi (rest := [.int y1, .ref (ad 0)]) (tX9_child hD hq3) hx hb hml hown ht hX hP hS wX9_child kML_RX9_71 rfl rfl ⟨Nat.le_of_ble_eq_true rfl, Nat.le_of_ble_eq_true rfl⟩ (va_recv hX.1 hP rfl mw_obj) rfl hl.1 rfl (Nat.le_of_ble_eq_true rfl) dX9_turnsDown_21 (fun H locs hP hS => ?_)
    obtain ⟨q4, hq4, hf⟩ := obE hf
    refine ct_cVi (rest := []) (tX9_step hD hq4) hx hb hml hown ht hX hP hS wX9_step kML_RX9_100 rfl rfl ⟨Nat.le_of_ble_eq_true rfl, Nat.le_of_ble_eq_true rfl⟩ (va_recv hX.1 hP rfl mw_obj) rfl hl.1 rfl (Nat.le_of_ble_eq_true rfl) dX9_turnsDown_24 (fun H locs hP hS => ?_)
    refine lv_iconst (v := (1 : Int32)) hx hb dX9_turnsDown_27 (by decide) ?_
    refine lv_icmp_ne (tgt := 65) hx hb dX9_turnsDown_28 (by decide) (fun hc5 => ?_) (fun hc5 => ?_)
    · rw [if_neg hc5] at hf
      refine lv_aload_n hx hb dX9_turnsDown_65 rfl (lv_at hl 0 rfl) ?_
      refine lv_iload hx hb dX9_turnsDown_66 (lv_at hl 3 rfl) ?_
      obtain ⟨q6, hq6, hf⟩ := obE hf
      refine ct_cVv (rest := []) (tX9_turns hD hq6) hx hb hml hown ht hX hP hS wX9_turns kML_RX9_110 rfl rfl ⟨Nat.le_of_ble_eq_true rfl, Nat.le_of_ble_eq_true rfl⟩ (va_recv hX.1 hP rfl mw_obj) rfl hl.1 rfl (Nat.le_of_ble_eq_true rfl) dX9_turnsDown_68 (fun H locs hP hS => ?_)
      refine lv_aload_n hx hb dX9_turnsDown_71 rfl (lv_at hl 0 rfl) ?_
      refine lv_iload hx hb dX9_turnsDown_72 (lv_at hl 3 rfl) ?_
      obtain ⟨q7, hq7, hf⟩ := obE hf
      refine ct_cVv (rest := []) (tX9_turns hD hq7) hx hb hml hown ht hX hP hS wX9_turns kML_RX9_110 rfl rfl ⟨Nat.le_of_ble_eq_true rfl, Nat.le_of_ble_eq_true rfl⟩ (va_recv hX.1 hP rfl mw_obj) rfl hl.1 rfl (Nat.le_of_ble_eq_true rfl) dX9_turnsDown_74 (fun H locs hP hS => ?_)
      refine lv_aload_n hx hb dX9_turnsDown_77 rfl (lv_at hl 0 rfl) ?_
      refine lv_iload hx hb dX9_turnsDown_78 (lv_at hl 3 rfl) ?_
      refine lv_iconst (v := (2 : Int32)) hx hb dX9_turnsDown_80 (by decide) ?_
      obtain ⟨q8, hq8, hf⟩ := obE hf
      refine ct_cVv (rest := []) (tX9_ranks hD hq8) hx hb hml hown ht hX hP hS wX9_ranks kML_RX9_103 rfl rfl ⟨Nat.le_of_ble_eq_true rfl, Nat.le_of_ble_eq_true rfl⟩ (va_recv hX.1 hP rfl mw_obj) rfl hl.1 rfl (Nat.le_of_ble_eq_true rfl) dX9_turnsDown_81 (fun H locs hP hS => ?_)
      refine lv_aload_n hx hb dX9_turnsDown_84 rfl (lv_at hl 0 rfl) ?_
      refine lv_iload_n hx hb dX9_turnsDown_85 rfl (lv_at hl 2 rfl) ?_
      refine lv_iconst (v := (-1 : Int32)) hx hb dX9_turnsDown_86 (by decide) ?_
      obtain ⟨q9, hq9, hf⟩ := obE hf
      refine ct_cVv (rest := []) (tX9_ranks hD hq9) hx hb hml hown ht hX hP hS wX9_ranks kML_RX9_103 rfl rfl ⟨Nat.le_of_ble_eq_true rfl, Nat.le_of_ble_eq_true rfl⟩ (va_recv hX.1 hP rfl mw_obj) rfl hl.1 rfl (Nat.le_of_ble_eq_true rfl) dX9_turnsDown_87 (fun H locs hP hS => ?_)
      refine lv_aload_n hx hb dX9_turnsDown_90 rfl (lv_at hl 0 rfl) ?_
      refine lv_iload_n hx hb dX9_turnsDown_91 rfl (lv_at hl 1 rfl) ?_
      refine lv_bipush (v := (-2 : Int32)) hx hb dX9_turnsDown_92 (by decide) ?_
      obtain ⟨q10, hq10, hf⟩ := obE hf
      refine ct_cVv (rest := []) (tX9_ranks hD hq10) hx hb hml hown ht hX hP hS wX9_ranks kML_RX9_103 rfl rfl ⟨Nat.le_of_ble_eq_true rfl, Nat.le_of_ble_eq_true rfl⟩ (va_recv hX.1 hP rfl mw_obj) rfl hl.1 rfl (Nat.le_of_ble_eq_true rfl) dX9_turnsDown_94 (fun H locs hP hS => ?_)
      have e0 := Option.some.inj hf
      subst e0
      exact hret _ _ _ _ hP hS dX9_turnsDown_97
    · rw [if_pos hc5] at hf
      refine lv_aload_n hx hb dX9_turnsDown_31 rfl (lv_at hl 0 rfl) ?_
      refine lv_iload_n hx hb dX9_turnsDown_32 rfl (lv_at hl 2 rfl) ?_
      obtain ⟨q11, hq11, hf⟩ := obE hf
      refine ct_cVv (rest := []) (tX9_turns hD hq11) hx hb hml hown ht hX hP hS wX9_turns kML_RX9_110 rfl rfl ⟨Nat.le_of_ble_eq_true rfl, Nat.le_of_ble_eq_true rfl⟩ (va_recv hX.1 hP rfl mw_obj) rfl hl.1 rfl (Nat.le_of_ble_eq_true rfl) dX9_turnsDown_33 (fun H locs hP hS => ?_)
      refine lv_aload_n hx hb dX9_turnsDown_36 rfl (lv_at hl 0 rfl) ?_
      refine lv_iload_n hx hb dX9_turnsDown_37 rfl (lv_at hl 2 rfl) ?_
      refine lv_iconst (v := (1 : Int32)) hx hb dX9_turnsDown_38 (by decide) ?_
      obtain ⟨q12, hq12, hf⟩ := obE hf
      refine ct_cVv (rest := []) (tX9_ranks hD hq12) hx hb hml hown ht hX hP hS wX9_ranks kML_RX9_103 rfl rfl ⟨Nat.le_of_ble_eq_true rfl, Nat.le_of_ble_eq_true rfl⟩ (va_recv hX.1 hP rfl mw_obj) rfl hl.1 rfl (Nat.le_of_ble_eq_true rfl) dX9_turnsDown_39 (fun H locs hP hS => ?_)
      refine lv_aload_n hx hb dX9_turnsDown_42 rfl (lv_at hl 0 rfl) ?_
      refine lv_iload_n hx hb dX9_turnsDown_43 rfl (lv_at hl 1 rfl) ?_
      refine lv_iconst (v := (-1 : Int32)) hx hb dX9_turnsDown_44 (by decide) ?_
      obtain ⟨q13, hq13, hf⟩ := obE hf
      refine ct_cVv (rest := []) (tX9_ranks hD hq13) hx hb hml hown ht hX hP hS wX9_ranks kML_RX9_103 rfl rfl ⟨Nat.le_of_ble_eq_true rfl, Nat.le_of_ble_eq_true rfl⟩ (va_recv hX.1 hP rfl mw_obj) rfl hl.1 rfl (Nat.le_of_ble_eq_true rfl) dX9_turnsDown_45 (fun H locs hP hS => ?_)
      refine lv_aload_n hx hb dX9_turnsDown_48 rfl (lv_at hl 0 rfl) ?_
      refine lv_iload_n hx hb dX9_turnsDown_49 rfl (lv_at hl 1 rfl) ?_
      obtain ⟨q14, hq14, hf⟩ := obE hf
      refine ct_cVi (rest := []) (tX9_hasNoChildren hD hq14) hx hb hml hown ht hX hP hS wX9_hasNoChildren kML_RX9_116 rfl rfl ⟨Nat.le_of_ble_eq_true rfl, Nat.le_of_ble_eq_true rfl⟩ (va_recv hX.1 hP rfl mw_obj) rfl hl.1 rfl (Nat.le_of_ble_eq_true rfl) dX9_turnsDown_50 (fun H locs hP hS => ?_)
      refine lv_if_eq (tgt := 97) hx hb dX9_turnsDown_53 (by decide) (fun hc15 => ?_) (fun hc15 => ?_)
      · rw [if_pos hc15] at hf
        have e0 := Option.some.inj hf
        subst e0
        exact hret _ _ _ _ hP hS dX9_turnsDown_97
      · rw [if_neg hc15] at hf
        refine lv_aload_n hx hb dX9_turnsDown_56 rfl (lv_at hl 0 rfl) ?_
        refine lv_iload_n hx hb dX9_turnsDown_57 rfl (lv_at hl 1 rfl) ?_
        refine lv_iconst (v := (-1 : Int32)) hx hb dX9_turnsDown_58 (by decide) ?_
        obtain ⟨q16, hq16, hf⟩ := obE hf
        refine ct_cVv (rest := []) (tX9_ranks hD hq16) hx hb hml hown ht hX hP hS wX9_ranks kML_RX9_103 rfl rfl ⟨Nat.le_of_ble_eq_true rfl, Nat.le_of_ble_eq_true rfl⟩ (va_recv hX.1 hP rfl mw_obj) rfl hl.1 rfl (Nat.le_of_ble_eq_true rfl) dX9_turnsDown_59 (fun H locs hP hS => ?_)
        refine lv_goto (tgt := 97) hx hb dX9_turnsDown_62 (by decide) ?_
        have e0 := Option.some.inj hf
        subst e0
        exact hret _ _ _ _ hP hS dX9_turnsDown_97
  unfold fX9_turnsDown at hf
  refine lv_aload_n hx hb dX9_turnsDown_0 rfl (lv_at hl 0 rfl) ?_
  refine lv_iload_n hx hb dX9_turnsDown_1 rfl (lv_at hl 2 rfl) ?_
  refine lv_iload_n hx hb dX9_turnsDown_2 rfl (lv_at hl 3 rfl) ?_
  obtain ⟨q1, hq1, hf⟩ := obE hf
  refine ct_cVi (rest := []) (tX9_child hD hq1) hx hb hml hown ht hX hP hS wX9_child kML_RX9_71 rfl rfl ⟨Nat.le_of_ble_eq_true rfl, Nat.le_of_ble_eq_true rfl⟩ (va_recv hX.1 hP rfl mw_obj) rfl hl.1 rfl (Nat.le_of_ble_eq_true rfl) dX9_turnsDown_3 (fun H locs hP hS => ?_)
  refine lv_istore (lv' := [(4, .int q1), (0, .ref (ad 0)), (1, .int x1), (2, .int x2), (3, .int x3)]) hx hb dX9_turnsDown_6 hl (by decide) rfl (fun ls hl => ?_)
  refine lv_aload_n hx hb dX9_turnsDown_8 rfl (lv_at hl 1 rfl) ?_
  refine lv_iload_n hx hb dX9_turnsDown_9 rfl (lv_at hl 3 rfl) ?_
  refine lv_aload_n hx hb dX9_turnsDown_10 rfl (lv_at hl 1 rfl) ?_
  refine lv_iload_n hx hb dX9_turnsDown_11 rfl (lv_at hl 3 rfl) ?_
  refine lv_iload_n hx hb dX9_turnsDown_12 rfl (lv_at hl 4 rfl) ?_
  refine lv_if_ne (tgt := 20) hx hb dX9_turnsDown_13 (by decide) (fun hc2 => ?_) (fun hc2 => ?_)
  · rw [if_neg hc2] at hf
    refine lv_iconst (v := (0 : Int32)) hx hb dX9_turnsDown_20 (by decide) ?_
    exact blk21 _ _ now x1 x2 q1 x2 x2 (0 : Int32) ls hP hS (lv_sub hl [1, 2, 3, 0] rfl) hf
  · rw [if_pos hc2] at hf
    refine lv_iconst (v := (1 : Int32)) hx hb dX9_turnsDown_16 (by decide) ?_
    refine lv_goto (tgt := 21) hx hb dX9_turnsDown_17 (by decide) ?_
    exact blk21 _ _ now x1 x2 q1 x2 x2 (1 : Int32) ls hP hS (lv_sub hl [1, 2, 3, 0] rfl) hf
def fX9_falls_168 (F : Nat) (k5 : (Nat → Int32) → Int32 → Int32 → Option ((Nat → Int32))) (now : Nat → Int32) (x7 : Int32) (y0 : Int32) : Option ((Nat → Int32)) := k5 now x7 y0
def fX9_falls_167 (F : Nat) (k5 : (Nat → Int32) → Int32 → Int32 → Option ((Nat → Int32))) (now : Nat → Int32) (x7 : Int32) : Option ((Nat → Int32)) := fX9_falls_168 F k5 now x7 (0 : Int32)
def fX9_falls_147 (F : Nat) (k5 : (Nat → Int32) → Int32 → Int32 → Option ((Nat → Int32))) (now : Nat → Int32) (x3 : Int32) (x7 : Int32) : Option ((Nat → Int32)) := if x7 = (-1 : Int32) then (fX9_falls_167 F k5 now x7) else ((fX9_isLeftOf F now x7 x3).bind fun q26 => (if q26 = 0 then (fX9_falls_167 F k5 now x7) else (fX9_falls_168 F k5 now x7 (1 : Int32))))
def fX9_falls_119 (F : Nat) (k5 : (Nat → Int32) → Int32 → Int32 → Option ((Nat → Int32))) (now : Nat → Int32) (x3 : Int32) (x5 : Int32) (x6 : Int32) (x7 : Int32) : Option ((Nat → Int32)) := (fX9_ranks F now x3 (-1 : Int32)).bind fun q20 => ((fX9_counts F q20 (1 : Int32)).bind fun q21 => (if x6 = 0 then (fX9_falls_147 F k5 q21 x3 x7) else ((fX9_ranks F q21 x5 (-1 : Int32)).bind fun q23 => ((fX9_counts F q23 (1 : Int32)).bind fun q24 => (fX9_falls_147 F k5 q24 x3 x7)))))
def fX9_falls_93 (F : Nat) (k5 : (Nat → Int32) → Int32 → Int32 → Option ((Nat → Int32))) (now : Nat → Int32) (x3 : Int32) (x4 : Int32) (x5 : Int32) (y0 : Int32) : Option ((Nat → Int32)) := (fX9_of F now x3 (5 : Int32)).bind fun q15 => ((fX9_step F now x3 x5).bind fun q16 => (if q16 = (2 : Int32) then (fX9_falls_119 F k5 now x3 x5 y0 q15) else (if y0 = 0 then ((fX9_turnsDown F now x3 x5 x4).bind fun q19 => (k5 q19 (-1 : Int32) x4)) else (fX9_falls_119 F k5 now x3 x5 y0 q15))))
def fX9_falls_92 (F : Nat) (k5 : (Nat → Int32) → Int32 → Int32 → Option ((Nat → Int32))) (now : Nat → Int32) (x3 : Int32) (x4 : Int32) (x5 : Int32) : Option ((Nat → Int32)) := fX9_falls_93 F k5 now x3 x4 x5 (0 : Int32)
def fX9_falls_38 (F : Nat) (k5 : (Nat → Int32) → Int32 → Int32 → Option ((Nat → Int32))) (now : Nat → Int32) (x3 : Int32) (x4 : Int32) (y1 : Int32) (y2 : Int32) : Option ((Nat → Int32)) := (fX9_child F now y1 y2).bind fun q6 => ((fX9_step F now x3 q6).bind fun q7 => (if q7 = (1 : Int32) then ((fX9_of F now q6 (3 : Int32)).bind fun q9 => ((fX9_step F now q6 q9).bind fun q10 => (if q10 = (2 : Int32) then ((fX9_of F now q6 (4 : Int32)).bind fun q12 => ((fX9_step F now q6 q12).bind fun q13 => (if q13 = (2 : Int32) then (fX9_falls_93 F k5 now x3 x4 q6 (1 : Int32)) else (fX9_falls_92 F k5 now x3 x4 q6)))) else (fX9_falls_92 F k5 now x3 x4 q6)))) else (fX9_falls_92 F k5 now x3 x4 q6)))
def fX9_falls_5 (F : Nat) : Nat → (Nat → Int32) → Int32 → Int32 → Option ((Nat → Int32))
  | 0, _, _, _ => none
  | n + 1, now, x3, x4 => if x3 = (-1 : Int32) then (some now) else ((fX9_child F now x3 x4).bind fun q2 => ((fX9_step F now x3 q2).bind fun q3 => (if q3 = (3 : Int32) then (if x4 = 0 then (fX9_falls_38 F (fun now x3 x4 => fX9_falls_5 F n now x3 x4) now x3 x4 x3 (1 : Int32)) else (fX9_falls_38 F (fun now x3 x4 => fX9_falls_5 F n now x3 x4) now x3 x4 x3 (0 : Int32))) else (some now))))
def fX9_falls (F : Nat) (now : Nat → Int32) (x1 : Int32) (x2 : Int32) : Option ((Nat → Int32)) := fX9_falls_5 F F now x1 x2
abbrev rX9_falls : Room := { frames := 4, cells := 0, slots := 0, locals := 96 }
theorem wX9_falls : kV yX9_falls cX9_falls 8 none 2 := ⟨kCO_yX9_falls, kIM_yX9_falls, kSE_yX9_falls, kIN_RX9, by decide +kernel, by decide +kernel, by decide +kernel⟩
set_option maxHeartbeats 4000000 in
set_option maxRecDepth 100000 in
theorem tX9_falls {l : Launch} {D : va_G} {cI cZ : ClassId} {ad : Nat → Nat} (hD : gInj 15 ad) {F : Nat} {un sd : Int32} {now past images iseed kept order numof above pile aside fewest deep keys worths : Nat → Int32} {x1 : Int32} {x2 : Int32} {res : (Nat → Int32)} (hf : fX9_falls F now x1 x2 = some res) : CTv l yX9_falls cX9_falls 8 rX9_falls D (mTy cI cZ) (gA 15 ad) [.ref (ad 0), .int x1, .int x2] (mw cI cZ ad un sd now past images iseed kept order numof above pile aside fewest deep keys worths) (mw cI cZ ad un sd res past images iseed kept order numof above pile aside fewest deep keys worths) := by
  refine ct_void (by decide) (Nat.le_of_ble_eq_true rfl) ?_
  intro p e s m args below meth c Q ls hx hb hml hown ht hX hret hP hS hl
  have hl : lv_has ls 8 [(0, .ref (ad 0)), (1, .int x1), (2, .int x2)] := hl
  have blk5 : ∀ (n5 : Nat) (H : Heap) (locs : List Loc) (now : Nat → Int32) (x3 : Int32) (x4 : Int32) (ls : Array Slot), va_P D vwCl (mw cI cZ ad un sd now past images iseed kept order numof above pile aside fewest deep keys worths) H → va_S (gA 15 ad) s.heap H locs → lv_has ls 8 [(0, .ref (ad 0)), (3, .int x3), (4, .int x4)] → fX9_falls_5 F n5 now x3 x4 = some res → W p l e rX9_falls s m args below meth c H locs 0 0 Q (F0 m 5 ls []) := by
    intro n5
    induction n5 with
    | zero =>
      intro H locs now x3 x4 ls hP hS hl hf
      rw [fX9_falls_5] at hf
      cases hf
    | succ n5 ih5 =>
      skip
      have blk168 : ∀ (H : Heap) (locs : List Loc) (now : Nat → Int32) (x7 : Int32) (y0 : Int32) (ls : Array Slot), va_P D vwCl (mw cI cZ ad un sd now past images iseed kept order numof above pile aside fewest deep keys worths) H → va_S (gA 15 ad) s.heap H locs → lv_has ls 8 [(0, .ref (ad 0)), (7, .int x7)] → fX9_falls_168 F (fun now x3 x4 => fX9_falls_5 F n5 now x3 x4) now x7 y0 = some res → W p l e rX9_falls s m args below meth c H locs 0 0 Q (F0 m 168 ls [.int y0]) := by
        intro H locs now x7 y0 ls hP hS hl hf
        unfold fX9_falls_168 at hf
        refine lv_istore (lv' := [(4, .int y0), (0, .ref (ad 0)), (7, .int x7)]) hx hb dX9_falls_168 hl (by decide) rfl (fun ls hl => ?_)
        refine lv_iload hx hb dX9_falls_170 (lv_at hl 2 rfl) ?_
        refine lv_istore_n (lv' := [(3, .int x7), (4, .int y0), (0, .ref (ad 0)), (7, .int x7)]) hx hb dX9_falls_172 rfl hl (by decide) rfl (fun ls hl => ?_)
        refine lv_goto (tgt := 187) hx hb dX9_falls_173 (by decide) ?_
        refine lv_goto (tgt := 5) hx hb dX9_falls_187 (by decide) ?_
        exact ih5 _ _ now x7 y0 ls hP hS (lv_sub hl [2, 0, 1] rfl) hf
      have blk167 : ∀ (H : Heap) (locs : List Loc) (now : Nat → Int32) (x7 : Int32) (ls : Array Slot), va_P D vwCl (mw cI cZ ad un sd now past images iseed kept order numof above pile aside fewest deep keys worths) H → va_S (gA 15 ad) s.heap H locs → lv_has ls 8 [(0, .ref (ad 0)), (7, .int x7)] → fX9_falls_167 F (fun now x3 x4 => fX9_falls_5 F n5 now x3 x4) now x7 = some res → W p l e rX9_falls s m args below meth c H locs 0 0 Q (F0 m 167 ls []) := by
        intro H locs now x7 ls hP hS hl hf
        unfold fX9_falls_167 at hf
        refine lv_iconst (v := (0 : Int32)) hx hb dX9_falls_167 (by decide) ?_
        exact blk168 _ _ now x7 (0 : Int32) ls hP hS (lv_sub hl [0, 1] rfl) hf
      have blk147 : ∀ (H : Heap) (locs : List Loc) (now : Nat → Int32) (x3 : Int32) (x7 : Int32) (ls : Array Slot), va_P D vwCl (mw cI cZ ad un sd now past images iseed kept order numof above pile aside fewest deep keys worths) H → va_S (gA 15 ad) s.heap H locs → lv_has ls 8 [(0, .ref (ad 0)), (3, .int x3), (7, .int x7)] → fX9_falls_147 F (fun now x3 x4 => fX9_falls_5 F n5 now x3 x4) now x3 x7 = some res → W p l e rX9_falls s m args below meth c H locs 0 0 Q (F0 m 147 ls []) := by
        intro H locs now x3 x7 ls hP hS hl hf
        unfold fX9_falls_147 at hf
        refine lv_iload hx hb dX9_falls_147 (lv_at hl 2 rfl) ?_
        refine lv_iconst (v := (-1 : Int32)) hx hb dX9_falls_149 (by decide) ?_
        refine lv_icmp_eq (tgt := 167) hx hb dX9_falls_150 (by decide) (fun hc25 => ?_) (fun hc25 => ?_)
        · rw [if_pos hc25] at hf
          exact blk167 _ _ now x7 ls hP hS (lv_sub hl [0, 2] rfl) hf
        · rw [if_neg hc25] at hf
          refine lv_aload_n hx hb dX9_falls_153 rfl (lv_at hl 0 rfl) ?_
          refine lv_iload hx hb dX9_falls_154 (lv_at hl 2 rfl) ?_
          refine lv_iload_n hx hb dX9_falls_156 rfl (lv_at hl 1 rfl) ?_
          obtain ⟨q26, hq26, hf⟩ := obE hf
          refine ct_cVi (rest := []) (tX9_isLeftOf hD hq26) hx hb hml hown ht hX hP hS wX9_isLeftOf kML_RX9_67 rfl rfl ⟨Nat.le_of_ble_eq_true rfl, Nat.le_of_ble_eq_true rfl⟩ (va_recv hX.1 hP rfl mw_obj) rfl hl.1 rfl (Nat.le_of_ble_eq_true rfl) dX9_falls_157 (fun H locs hP hS => ?_)
          refine lv_if_eq (tgt := 167) hx hb dX9_falls_160 (by decide) (fun hc27 => ?_) (fun hc27 => ?_)
          · rw [if_pos hc27] at hf
            exact blk167 _ _ now x7 ls hP hS (lv_sub hl [0, 2] rfl) hf
          · rw [if_neg hc27] at hf
            refine lv_iconst (v := (1 : Int32)) hx hb dX9_falls_163 (by decide) ?_
            refine lv_goto (tgt := 168) hx hb dX9_falls_164 (by decide) ?_
            exact blk168 _ _ now x7 (1 : Int32) ls hP hS (lv_sub hl [0, 2] rfl) hf
      have blk119 : ∀ (H : Heap) (locs : List Loc) (now : Nat → Int32) (x3 : Int32) (x5 : Int32) (x6 : Int32) (x7 : Int32) (ls : Array Slot), va_P D vwCl (mw cI cZ ad un sd now past images iseed kept order numof above pile aside fewest deep keys worths) H → va_S (gA 15 ad) s.heap H locs → lv_has ls 8 [(0, .ref (ad 0)), (3, .int x3), (5, .int x5), (6, .int x6), (7, .int x7)] → fX9_falls_119 F (fun now x3 x4 => fX9_falls_5 F n5 now x3 x4) now x3 x5 x6 x7 = some res → W p l e rX9_falls s m args below meth c H locs 0 0 Q (F0 m 119 ls []) := by
        intro H locs now x3 x5 x6 x7 ls hP hS hl hf
        unfold fX9_falls_119 at hf
        refine lv_aload_n hx hb dX9_falls_119 rfl (lv_at hl 0 rfl) ?_
        refine lv_iload_n hx hb dX9_falls_120 rfl (lv_at hl 1 rfl) ?_
        refine lv_iconst (v := (-1 : Int32)) hx hb dX9_falls_121 (by decide) ?_
        obtain ⟨q20, hq20, hf⟩ := obE hf
        refine ct_cVv (rest := []) (tX9_ranks hD hq20) hx hb hml hown ht hX hP hS wX9_ranks kML_RX9_103 rfl rfl ⟨Nat.le_of_ble_eq_true rfl, Nat.le_of_ble_eq_true rfl⟩ (va_recv hX.1 hP rfl mw_obj) rfl hl.1 rfl (Nat.le_of_ble_eq_true rfl) dX9_falls_122 (fun H locs hP hS => ?_)
        refine lv_aload_n hx hb dX9_falls_125 rfl (lv_at hl 0 rfl) ?_
        refine lv_iconst (v := (1 : Int32)) hx hb dX9_falls_126 (by decide) ?_
        obtain ⟨q21, hq21, hf⟩ := obE hf
        refine ct_cVv (rest := []) (tX9_counts hD hq21) hx hb hml hown ht hX hP hS wX9_counts kML_RX9_79 rfl rfl ⟨Nat.le_of_ble_eq_true rfl, Nat.le_of_ble_eq_true rfl⟩ (va_recv hX.1 hP rfl mw_obj) rfl hl.1 rfl (Nat.le_of_ble_eq_true rfl) dX9_falls_127 (fun H locs hP hS => ?_)
        refine lv_iload hx hb dX9_falls_130 (lv_at hl 3 rfl) ?_
        refine lv_if_eq (tgt := 147) hx hb dX9_falls_132 (by decide) (fun hc22 => ?_) (fun hc22 => ?_)
        · rw [if_pos hc22] at hf
          exact blk147 _ _ q21 x3 x7 ls hP hS (lv_sub hl [0, 1, 4] rfl) hf
        · rw [if_neg hc22] at hf
          refine lv_aload_n hx hb dX9_falls_135 rfl (lv_at hl 0 rfl) ?_
          refine lv_iload hx hb dX9_falls_136 (lv_at hl 2 rfl) ?_
          refine lv_iconst (v := (-1 : Int32)) hx hb dX9_falls_138 (by decide) ?_
          obtain ⟨q23, hq23, hf⟩ := obE hf
          refine ct_cVv (rest := []) (tX9_ranks hD hq23) hx hb hml hown ht hX hP hS wX9_ranks kML_RX9_103 rfl rfl ⟨Nat.le_of_ble_eq_true rfl, Nat.le_of_ble_eq_true rfl⟩ (va_recv hX.1 hP rfl mw_obj) rfl hl.1 rfl (Nat.le_of_ble_eq_true rfl) dX9_falls_139 (fun H locs hP hS => ?_)
          refine lv_aload_n hx hb dX9_falls_142 rfl (lv_at hl 0 rfl) ?_
          refine lv_iconst (v := (1 : Int32)) hx hb dX9_falls_143 (by decide) ?_
          obtain ⟨q24, hq24, hf⟩ := obE hf
          refine ct_cVv (rest := []) (tX9_counts hD hq24) hx hb hml hown ht hX hP hS wX9_counts kML_RX9_79 rfl rfl ⟨Nat.le_of_ble_eq_true rfl, Nat.le_of_ble_eq_true rfl⟩ (va_recv hX.1 hP rfl mw_obj) rfl hl.1 rfl (Nat.le_of_ble_eq_true rfl) dX9_falls_144 (fun H locs hP hS => ?_)
          exact blk147 _ _ q24 x3 x7 ls hP hS (lv_sub hl [0, 1, 4] rfl) hf
      have blk93 : ∀ (H : Heap) (locs : List Loc) (now : Nat → Int32) (x3 : Int32) (x4 : Int32) (x5 : Int32) (y0 : Int32) (ls : Array Slot), va_P D vwCl (mw cI cZ ad un sd now past images iseed kept order numof above pile aside fewest deep keys worths) H → va_S (gA 15 ad) s.heap H locs → lv_has ls 8 [(0, .ref (ad 0)), (3, .int x3), (4, .int x4), (5, .int x5)] → fX9_falls_93 F (fun now x3 x4 => fX9_falls_5 F n5 now x3 x4) now x3 x4 x5 y0 = some res → W p l e rX9_falls s m args below meth c H locs 0 0 Q (F0 m 93 ls [.int y0]) := by
        intro H locs now x3 x4 x5 y0 ls hP hS hl hf
        unfold fX9_falls_93 at hf
        refine lv_istore (lv' := [(6, .int y0), (0, .ref (ad 0)), (3, .int x3), (4, .int x4), (5, .int x5)]) hx hb dX9_falls_93 hl (by decide) rfl (fun ls hl => ?_)
        refine lv_aload_n hx hb dX9_falls_95 rfl (lv_at hl 1 rfl) ?_
        refine lv_iload_n hx hb dX9_falls_96 rfl (lv_at hl 2 rfl) ?_
        refine lv_iconst (v := (5 : Int32)) hx hb dX9_falls_97 (by decide) ?_
        obtain ⟨q15, hq15, hf⟩ := obE hf
        refine ct_cVi (rest := []) (tX9_of hD hq15) hx hb hml hown ht hX hP hS wX9_of kML_RX9_63 rfl rfl ⟨Nat.le_of_ble_eq_true rfl, Nat.le_of_ble_eq_true rfl⟩ (va_recv hX.1 hP rfl mw_obj) rfl hl.1 rfl (Nat.le_of_ble_eq_true rfl) dX9_falls_98 (fun H locs hP hS => ?_)
        refine lv_istore (lv' := [(7, .int q15), (6, .int y0), (0, .ref (ad 0)), (3, .int x3), (4, .int x4), (5, .int x5)]) hx hb dX9_falls_101 hl (by decide) rfl (fun ls hl => ?_)
        refine lv_aload_n hx hb dX9_falls_103 rfl (lv_at hl 2 rfl) ?_
        refine lv_iload_n hx hb dX9_falls_104 rfl (lv_at hl 3 rfl) ?_
        refine lv_iload hx hb dX9_falls_105 (lv_at hl 5 rfl) ?_
        obtain ⟨q16, hq16, hf⟩ := obE hf
        refine ct_cVi (rest := []) (tX9_step hD hq16) hx hb hml hown ht hX hP hS wX9_step kML_RX9_100 rfl rfl ⟨Nat.le_of_ble_eq_true rfl, Nat.le_of_ble_eq_true rfl⟩ (va_recv hX.1 hP rfl mw_obj) rfl hl.1 rfl (Nat.le_of_ble_eq_true rfl) dX9_falls_107 (fun H locs hP hS => ?_)
        refine lv_iconst (v := (2 : Int32)) hx hb dX9_falls_110 (by decide) ?_
        refine lv_icmp_eq (tgt := 119) hx hb dX9_falls_111 (by decide) (fun hc17 => ?_) (fun hc17 => ?_)
        · rw [if_pos hc17] at hf
          exact blk119 _ _ now x3 x5 y0 q15 ls hP hS (lv_sub hl [2, 3, 5, 1, 0] rfl) hf
        · rw [if_neg hc17] at hf
          refine lv_iload hx hb dX9_falls_114 (lv_at hl 1 rfl) ?_
          refine lv_if_eq (tgt := 176) hx hb dX9_falls_116 (by decide) (fun hc18 => ?_) (fun hc18 => ?_)
          · rw [if_pos hc18] at hf
            refine lv_aload_n hx hb dX9_falls_176 rfl (lv_at hl 2 rfl) ?_
            refine lv_iload_n hx hb dX9_falls_177 rfl (lv_at hl 3 rfl) ?_
            refine lv_iload hx hb dX9_falls_178 (lv_at hl 5 rfl) ?_
            refine lv_iload hx hb dX9_falls_180 (lv_at hl 4 rfl) ?_
            obtain ⟨q19, hq19, hf⟩ := obE hf
            refine ct_cVv (rest := []) (tX9_turnsDown hD hq19) hx hb hml hown ht hX hP hS wX9_turnsDown kML_RX9_124 rfl rfl ⟨Nat.le_of_ble_eq_true rfl, Nat.le_of_ble_eq_true rfl⟩ (va_recv hX.1 hP rfl mw_obj) rfl hl.1 rfl (Nat.le_of_ble_eq_true rfl) dX9_falls_182 (fun H locs hP hS => ?_)
            refine lv_iconst (v := (-1 : Int32)) hx hb dX9_falls_185 (by decide) ?_
            refine lv_istore_n (lv' := [(3, .int ((-1 : Int32))), (7, .int q15), (6, .int y0), (0, .ref (ad 0)), (4, .int x4), (5, .int x5)]) hx hb dX9_falls_186 rfl hl (by decide) rfl (fun ls hl => ?_)
            refine lv_goto (tgt := 5) hx hb dX9_falls_187 (by decide) ?_
            exact ih5 _ _ q19 (-1 : Int32) x4 ls hP hS (lv_sub hl [3, 0, 4] rfl) hf
          · rw [if_neg hc18] at hf
            exact blk119 _ _ now x3 x5 y0 q15 ls hP hS (lv_sub hl [2, 3, 5, 1, 0] rfl) hf
      have blk92 : ∀ (H : Heap) (locs : List Loc) (now : Nat → Int32) (x3 : Int32) (x4 : Int32) (x5 : Int32) (ls : Array Slot), va_P D vwCl (mw cI cZ ad un sd now past images iseed kept order numof above pile aside fewest deep keys worths) H → va_S (gA 15 ad) s.heap H locs → lv_has ls 8 [(0, .ref (ad 0)), (3, .int x3), (4, .int x4), (5, .int x5)] → fX9_falls_92 F (fun now x3 x4 => fX9_falls_5 F n5 now x3 x4) now x3 x4 x5 = some res → W p l e rX9_falls s m args below meth c H locs 0 0 Q (F0 m 92 ls []) := by
        intro H locs now x3 x4 x5 ls hP hS hl hf
        unfold fX9_falls_92 at hf
        refine lv_iconst (v := (0 : Int32)) hx hb dX9_falls_92 (by decide) ?_
        exact blk93 _ _ now x3 x4 x5 (0 : Int32) ls hP hS (lv_sub hl [0, 1, 2, 3] rfl) hf
      have blk38 : ∀ (H : Heap) (locs : List Loc) (now : Nat → Int32) (x3 : Int32) (x4 : Int32) (y1 : Int32) (y2 : Int32) (ls : Array Slot), va_P D vwCl (mw cI cZ ad un sd now past images iseed kept order numof above pile aside fewest deep keys worths) H → va_S (gA 15 ad) s.heap H locs → lv_has ls 8 [(0, .ref (ad 0)), (3, .int x3), (4, .int x4)] → fX9_falls_38 F (fun now x3 x4 => fX9_falls_5 F n5 now x3 x4) now x3 x4 y1 y2 = some res → W p l e rX9_falls s m args below meth c H locs 0 0 Q (F0 m 38 ls [.int y2, .int y1, .ref (ad 0)]) := by
        intro H locs now x3 x4 y1 y2 ls hP hS hl hf
        unfold fX9_falls_38 at hf
        obtain ⟨q6, hq6, hf⟩ := obE hf
        refine ct_cVi (rest := []) (tX9_child hD hq6) hx hb hml hown ht hX hP hS wX9_child kML_RX9_71 rfl rfl ⟨Nat.le_of_ble_eq_true rfl, Nat.le_of_ble_eq_true rfl⟩ (va_recv hX.1 hP rfl mw_obj) rfl hl.1 rfl (Nat.le_of_ble_eq_true rfl) dX9_falls_38 (fun H locs hP hS => ?_)
        refine lv_istore (lv' := [(5, .int q6), (0, .ref (ad 0)), (3, .int x3), (4, .int x4)]) hx hb dX9_falls_41 hl (by decide) rfl (fun ls hl => ?_)
        refine lv_aload_n hx hb dX9_falls_43 rfl (lv_at hl 1 rfl) ?_
        refine lv_iload_n hx hb dX9_falls_44 rfl (lv_at hl 2 rfl) ?_
        refine lv_iload hx hb dX9_falls_45 (lv_at hl 0 rfl) ?_
        obtain ⟨q7, hq7, hf⟩ := obE hf
        refine ct_cVi (rest := []) (tX9_step hD hq7) hx hb hml hown ht hX hP hS wX9_step kML_RX9_100 rfl rfl ⟨Nat.le_of_ble_eq_true rfl, Nat.le_of_ble_eq_true rfl⟩ (va_recv hX.1 hP rfl mw_obj) rfl hl.1 rfl (Nat.le_of_ble_eq_true rfl) dX9_falls_47 (fun H locs hP hS => ?_)
        refine lv_iconst (v := (1 : Int32)) hx hb dX9_falls_50 (by decide) ?_
        refine lv_icmp_ne (tgt := 92) hx hb dX9_falls_51 (by decide) (fun hc8 => ?_) (fun hc8 => ?_)
        · rw [if_neg hc8] at hf
          exact blk92 _ _ now x3 x4 q6 ls hP hS (lv_sub hl [1, 2, 3, 0] rfl) hf
        · rw [if_pos hc8] at hf
          refine lv_aload_n hx hb dX9_falls_54 rfl (lv_at hl 1 rfl) ?_
          refine lv_iload hx hb dX9_falls_55 (lv_at hl 0 rfl) ?_
          refine lv_aload_n hx hb dX9_falls_57 rfl (lv_at hl 1 rfl) ?_
          refine lv_iload hx hb dX9_falls_58 (lv_at hl 0 rfl) ?_
          refine lv_iconst (v := (3 : Int32)) hx hb dX9_falls_60 (by decide) ?_
          obtain ⟨q9, hq9, hf⟩ := obE hf
          refine ct_cVi (rest := [.int q6, .ref (ad 0)]) (tX9_of hD hq9) hx hb hml hown ht hX hP hS wX9_of kML_RX9_63 rfl rfl ⟨Nat.le_of_ble_eq_true rfl, Nat.le_of_ble_eq_true rfl⟩ (va_recv hX.1 hP rfl mw_obj) rfl hl.1 rfl (Nat.le_of_ble_eq_true rfl) dX9_falls_61 (fun H locs hP hS => ?_)
          obtain ⟨q10, hq10, hf⟩ := obE hf
          refine ct_cVi (rest := []) (tX9_step hD hq10) hx hb hml hown ht hX hP hS wX9_step kML_RX9_100 rfl rfl ⟨Nat.le_of_ble_eq_true rfl, Nat.le_of_ble_eq_true rfl⟩ (va_recv hX.1 hP rfl mw_obj) rfl hl.1 rfl (Nat.le_of_ble_eq_true rfl) dX9_falls_64 (fun H locs hP hS => ?_)
          refine lv_iconst (v := (2 : Int32)) hx hb dX9_falls_67 (by decide) ?_
          refine lv_icmp_ne (tgt := 92) hx hb dX9_falls_68 (by decide) (fun hc11 => ?_) (fun hc11 => ?_)
          · rw [if_neg hc11] at hf
            exact blk92 _ _ now x3 x4 q6 ls hP hS (lv_sub hl [1, 2, 3, 0] rfl) hf
          · rw [if_pos hc11] at hf
            refine lv_aload_n hx hb dX9_falls_71 rfl (lv_at hl 1 rfl) ?_
            refine lv_iload hx hb dX9_falls_72 (lv_at hl 0 rfl) ?_
            refine lv_aload_n hx hb dX9_falls_74 rfl (lv_at hl 1 rfl) ?_
            refine lv_iload hx hb dX9_falls_75 (lv_at hl 0 rfl) ?_
            refine lv_iconst (v := (4 : Int32)) hx hb dX9_falls_77 (by decide) ?_
            obtain ⟨q12, hq12, hf⟩ := obE hf
            refine ct_cVi (rest := [.int q6, .ref (ad 0)]) (tX9_of hD hq12) hx hb hml hown ht hX hP hS wX9_of kML_RX9_63 rfl rfl ⟨Nat.le_of_ble_eq_true rfl, Nat.le_of_ble_eq_true rfl⟩ (va_recv hX.1 hP rfl mw_obj) rfl hl.1 rfl (Nat.le_of_ble_eq_true rfl) dX9_falls_78 (fun H locs hP hS => ?_)
            obtain ⟨q13, hq13, hf⟩ := obE hf
            refine ct_cVi (rest := []) (tX9_step hD hq13) hx hb hml hown ht hX hP hS wX9_step kML_RX9_100 rfl rfl ⟨Nat.le_of_ble_eq_true rfl, Nat.le_of_ble_eq_true rfl⟩ (va_recv hX.1 hP rfl mw_obj) rfl hl.1 rfl (Nat.le_of_ble_eq_true rfl) dX9_falls_81 (fun H locs hP hS => ?_)
            refine lv_iconst (v := (2 : Int32)) hx hb dX9_falls_84 (by decide) ?_
            refine lv_icmp_ne (tgt := 92) hx hb dX9_falls_85 (by decide) (fun hc14 => ?_) (fun hc14 => ?_)
            · rw [if_neg hc14] at hf
              exact blk92 _ _ now x3 x4 q6 ls hP hS (lv_sub hl [1, 2, 3, 0] rfl) hf
            · rw [if_pos hc14] at hf
              refine lv_iconst (v := (1 : Int32)) hx hb dX9_falls_88 (by decide) ?_
              refine lv_goto (tgt := 93) hx hb dX9_falls_89 (by decide) ?_
              exact blk93 _ _ now x3 x4 q6 (1 : Int32) ls hP hS (lv_sub hl [1, 2, 3, 0] rfl) hf
      intro H locs now x3 x4 ls hP hS hl hf
      rw [fX9_falls_5] at hf
      refine lv_iload_n hx hb dX9_falls_5 rfl (lv_at hl 1 rfl) ?_
      refine lv_iconst (v := (-1 : Int32)) hx hb dX9_falls_6 (by decide) ?_
      refine lv_icmp_eq (tgt := 190) hx hb dX9_falls_7 (by decide) (fun hc1 => ?_) (fun hc1 => ?_)
      · rw [if_pos hc1] at hf
        have e0 := Option.some.inj hf
        subst e0
        exact hret _ _ _ _ hP hS dX9_falls_190
      · rw [if_neg hc1] at hf
        refine lv_aload_n hx hb dX9_falls_10 rfl (lv_at hl 0 rfl) ?_
        refine lv_iload_n hx hb dX9_falls_11 rfl (lv_at hl 1 rfl) ?_
        refine lv_aload_n hx hb dX9_falls_12 rfl (lv_at hl 0 rfl) ?_
        refine lv_iload_n hx hb dX9_falls_13 rfl (lv_at hl 1 rfl) ?_
        refine lv_iload hx hb dX9_falls_14 (lv_at hl 2 rfl) ?_
        obtain ⟨q2, hq2, hf⟩ := obE hf
        refine ct_cVi (rest := [.int x3, .ref (ad 0)]) (tX9_child hD hq2) hx hb hml hown ht hX hP hS wX9_child kML_RX9_71 rfl rfl ⟨Nat.le_of_ble_eq_true rfl, Nat.le_of_ble_eq_true rfl⟩ (va_recv hX.1 hP rfl mw_obj) rfl hl.1 rfl (Nat.le_of_ble_eq_true rfl) dX9_falls_16 (fun H locs hP hS => ?_)
        obtain ⟨q3, hq3, hf⟩ := obE hf
        refine ct_cVi (rest := []) (tX9_step hD hq3) hx hb hml hown ht hX hP hS wX9_step kML_RX9_100 rfl rfl ⟨Nat.le_of_ble_eq_true rfl, Nat.le_of_ble_eq_true rfl⟩ (va_recv hX.1 hP rfl mw_obj) rfl hl.1 rfl (Nat.le_of_ble_eq_true rfl) dX9_falls_19 (fun H locs hP hS => ?_)
        refine lv_iconst (v := (3 : Int32)) hx hb dX9_falls_22 (by decide) ?_
        refine lv_icmp_ne (tgt := 190) hx hb dX9_falls_23 (by decide) (fun hc4 => ?_) (fun hc4 => ?_)
        · rw [if_neg hc4] at hf
          have e0 := Option.some.inj hf
          subst e0
          exact hret _ _ _ _ hP hS dX9_falls_190
        · rw [if_pos hc4] at hf
          refine lv_aload_n hx hb dX9_falls_26 rfl (lv_at hl 0 rfl) ?_
          refine lv_iload_n hx hb dX9_falls_27 rfl (lv_at hl 1 rfl) ?_
          refine lv_iload hx hb dX9_falls_28 (lv_at hl 2 rfl) ?_
          refine lv_if_ne (tgt := 37) hx hb dX9_falls_30 (by decide) (fun hc5 => ?_) (fun hc5 => ?_)
          · rw [if_neg hc5] at hf
            refine lv_iconst (v := (0 : Int32)) hx hb dX9_falls_37 (by decide) ?_
            exact blk38 _ _ now x3 x4 x3 (0 : Int32) ls hP hS (lv_sub hl [0, 1, 2] rfl) hf
          · rw [if_pos hc5] at hf
            refine lv_iconst (v := (1 : Int32)) hx hb dX9_falls_33 (by decide) ?_
            refine lv_goto (tgt := 38) hx hb dX9_falls_34 (by decide) ?_
            exact blk38 _ _ now x3 x4 x3 (1 : Int32) ls hP hS (lv_sub hl [0, 1, 2] rfl) hf
  unfold fX9_falls at hf
  refine lv_iload_n hx hb dX9_falls_0 rfl (lv_at hl 1 rfl) ?_
  refine lv_istore_n (lv' := [(3, .int x1), (0, .ref (ad 0)), (1, .int x1), (2, .int x2)]) hx hb dX9_falls_1 rfl hl (by decide) rfl (fun ls hl => ?_)
  refine lv_iload_n hx hb dX9_falls_2 rfl (lv_at hl 3 rfl) ?_
  refine lv_istore (lv' := [(4, .int x2), (3, .int x1), (0, .ref (ad 0)), (1, .int x1), (2, .int x2)]) hx hb dX9_falls_3 hl (by decide) rfl (fun ls hl => ?_)
  exact blk5 F _ _ now x1 x2 ls hP hS (lv_sub hl [2, 1, 0] rfl) hf
def fX9_takes_218 (F : Nat) (now : Nat → Int32) (x4 : Int32) (x5 : Int32) : Option ((Nat → Int32)) := (fX9_falls F now x4 x5).bind fun q35 => (some q35)
def fX9_takes_216 (F : Nat) (now : Nat → Int32) (x4 : Int32) (y0 : Int32) : Option ((Nat → Int32)) := fX9_takes_218 F now x4 y0
def fX9_takes_215 (F : Nat) (now : Nat → Int32) (x4 : Int32) : Option ((Nat → Int32)) := fX9_takes_216 F now x4 (0 : Int32)
def fX9_takes_116 (F : Nat) (now : Nat → Int32) (x2 : Int32) (x3 : Int32) (x4 : Int32) (y0 : Int32) : Option ((Nat → Int32)) := (fX9_hangs F now x4 y0 x3).bind fun q20 => ((fX9_lays F q20 x2 (0 : Int32) (-1 : Int32)).bind fun q21 => (if (361 : Int32) < 0 ∨ 368 ≤ (361 : Int32).toNatClampNeg then none else (if (361 : Int32) < 0 ∨ 368 ≤ (361 : Int32).toNatClampNeg then none else (if x4 = (-1 : Int32) then (fX9_takes_218 F (upd q21 (361 : Int32).toNatClampNeg ((q21 (361 : Int32).toNatClampNeg) - (1 : Int32))) x4 y0) else ((fX9_hasNoChildren F (upd q21 (361 : Int32).toNatClampNeg ((q21 (361 : Int32).toNatClampNeg) - (1 : Int32))) x4).bind fun q25 => (if q25 = 0 then (fX9_takes_218 F (upd q21 (361 : Int32).toNatClampNeg ((q21 (361 : Int32).toNatClampNeg) - (1 : Int32))) x4 y0) else ((fX9_of F (upd q21 (361 : Int32).toNatClampNeg ((q21 (361 : Int32).toNatClampNeg) - (1 : Int32))) x4 (2 : Int32)).bind fun q27 => (if q27 = (1 : Int32) then ((fX9_ranks F (upd q21 (361 : Int32).toNatClampNeg ((q21 (361 : Int32).toNatClampNeg) - (1 : Int32))) x4 (-1 : Int32)).bind fun q29 => ((fX9_counts F q29 (1 : Int32)).bind fun q30 => ((fX9_of F q30 x4 (5 : Int32)).bind fun q31 => (if q31 = (-1 : Int32) then (fX9_takes_215 F q30 q31) else ((fX9_isLeftOf F q30 q31 x4).bind fun q33 => (if q33 = 0 then (fX9_takes_215 F q30 q31) else (fX9_takes_216 F q30 q31 (1 : Int32)))))))) else (fX9_takes_218 F (upd q21 (361 : Int32).toNatClampNeg ((q21 (361 : Int32).toNatClampNeg) - (1 : Int32))) x4 y0)))))))))
def fX9_takes_115 (F : Nat) (now : Nat → Int32) (x2 : Int32) (x3 : Int32) (x4 : Int32) : Option ((Nat → Int32)) := fX9_takes_116 F now x2 x3 x4 (0 : Int32)
def fX9_takes_86 (F : Nat) (now : Nat → Int32) (x2 : Int32) (y0 : Int32) : Option ((Nat → Int32)) := (fX9_of F now x2 (5 : Int32)).bind fun q16 => (if q16 = (-1 : Int32) then (fX9_takes_115 F now x2 y0 q16) else ((fX9_isLeftOf F now q16 x2).bind fun q18 => (if q18 = 0 then (fX9_takes_115 F now x2 y0 q16) else (fX9_takes_116 F now x2 y0 q16 (1 : Int32)))))
def fX9_takes_61 (F : Nat) (now : Nat → Int32) (x2 : Int32) : Option ((Nat → Int32)) := (fX9_of F now x2 (3 : Int32)).bind fun q12 => (if q12 = (-1 : Int32) then ((fX9_of F now x2 (4 : Int32)).bind fun q15 => (fX9_takes_86 F now x2 q15)) else ((fX9_of F now x2 (3 : Int32)).bind fun q14 => (fX9_takes_86 F now x2 q14)))
def fX9_takes (F : Nat) (now : Nat → Int32) (x1 : Int32) : Option ((Nat → Int32)) := (fX9_begins F now).bind fun q1 => ((fX9_of F q1 x1 (3 : Int32)).bind fun q2 => (if q2 = (-1 : Int32) then (fX9_takes_61 F q1 x1) else ((fX9_of F q1 x1 (4 : Int32)).bind fun q4 => (if q4 = (-1 : Int32) then (fX9_takes_61 F q1 x1) else ((fX9_of F q1 x1 (4 : Int32)).bind fun q6 => ((fX9_leastBelow F q1 q6).bind fun q7 => ((fX9_of F q1 q7 (0 : Int32)).bind fun q8 => ((fX9_lays F q1 x1 (0 : Int32) q8).bind fun q9 => ((fX9_of F q9 q7 (1 : Int32)).bind fun q10 => ((fX9_lays F q9 x1 (1 : Int32) q10).bind fun q11 => (fX9_takes_61 F q11 q7)))))))))))
abbrev rX9_takes : Room := { frames := 5, cells := 0, slots := 0, locals := 123 }
theorem wX9_takes : kV yX9_takes cX9_takes 6 none 1 := ⟨kCO_yX9_takes, kIM_yX9_takes, kSE_yX9_takes, kIN_RX9, by decide +kernel, by decide +kernel, by decide +kernel⟩
set_option maxHeartbeats 4000000 in
set_option maxRecDepth 100000 in
theorem tX9_takes {l : Launch} {D : va_G} {cI cZ : ClassId} {ad : Nat → Nat} (hD : gInj 15 ad) {F : Nat} {un sd : Int32} {now past images iseed kept order numof above pile aside fewest deep keys worths : Nat → Int32} {x1 : Int32} {res : (Nat → Int32)} (hf : fX9_takes F now x1 = some res) : CTv l yX9_takes cX9_takes 6 rX9_takes D (mTy cI cZ) (gA 15 ad) [.ref (ad 0), .int x1] (mw cI cZ ad un sd now past images iseed kept order numof above pile aside fewest deep keys worths) (mw cI cZ ad un sd res past images iseed kept order numof above pile aside fewest deep keys worths) := by
  refine ct_void (by decide) (Nat.le_of_ble_eq_true rfl) ?_
  intro p e s m args below meth c Q ls hx hb hml hown ht hX hret hP hS hl
  have hl : lv_has ls 6 [(0, .ref (ad 0)), (1, .int x1)] := hl
  have blk218 : ∀ (H : Heap) (locs : List Loc) (now : Nat → Int32) (x4 : Int32) (x5 : Int32) (ls : Array Slot), va_P D vwCl (mw cI cZ ad un sd now past images iseed kept order numof above pile aside fewest deep keys worths) H → va_S (gA 15 ad) s.heap H locs → lv_has ls 6 [(0, .ref (ad 0)), (4, .int x4), (5, .int x5)] → fX9_takes_218 F now x4 x5 = some res → W p l e rX9_takes s m args below meth c H locs 0 0 Q (F0 m 218 ls []) := by
    intro H locs now x4 x5 ls hP hS hl hf
    unfold fX9_takes_218 at hf
    refine lv_aload_n hx hb dX9_takes_218 rfl (lv_at hl 0 rfl) ?_
    refine lv_iload hx hb dX9_takes_219 (lv_at hl 1 rfl) ?_
    refine lv_iload hx hb dX9_takes_221 (lv_at hl 2 rfl) ?_
    obtain ⟨q35, hq35, hf⟩ := obE hf
    refine ct_cVv (rest := []) (tX9_falls hD hq35) hx hb hml hown ht hX hP hS wX9_falls kML_RX9_120 rfl rfl ⟨Nat.le_of_ble_eq_true rfl, Nat.le_of_ble_eq_true rfl⟩ (va_recv hX.1 hP rfl mw_obj) rfl hl.1 rfl (Nat.le_of_ble_eq_true rfl) dX9_takes_223 (fun H locs hP hS => ?_)
    have e0 := Option.some.inj hf
    subst e0
    exact hret _ _ _ _ hP hS dX9_takes_226
  have blk216 : ∀ (H : Heap) (locs : List Loc) (now : Nat → Int32) (x4 : Int32) (y0 : Int32) (ls : Array Slot), va_P D vwCl (mw cI cZ ad un sd now past images iseed kept order numof above pile aside fewest deep keys worths) H → va_S (gA 15 ad) s.heap H locs → lv_has ls 6 [(0, .ref (ad 0)), (4, .int x4)] → fX9_takes_216 F now x4 y0 = some res → W p l e rX9_takes s m args below meth c H locs 0 0 Q (F0 m 216 ls [.int y0]) := by
    intro H locs now x4 y0 ls hP hS hl hf
    unfold fX9_takes_216 at hf
    refine lv_istore (lv' := [(5, .int y0), (0, .ref (ad 0)), (4, .int x4)]) hx hb dX9_takes_216 hl (by decide) rfl (fun ls hl => ?_)
    exact blk218 _ _ now x4 y0 ls hP hS (lv_sub hl [1, 2, 0] rfl) hf
  have blk215 : ∀ (H : Heap) (locs : List Loc) (now : Nat → Int32) (x4 : Int32) (ls : Array Slot), va_P D vwCl (mw cI cZ ad un sd now past images iseed kept order numof above pile aside fewest deep keys worths) H → va_S (gA 15 ad) s.heap H locs → lv_has ls 6 [(0, .ref (ad 0)), (4, .int x4)] → fX9_takes_215 F now x4 = some res → W p l e rX9_takes s m args below meth c H locs 0 0 Q (F0 m 215 ls []) := by
    intro H locs now x4 ls hP hS hl hf
    unfold fX9_takes_215 at hf
    refine lv_iconst (v := (0 : Int32)) hx hb dX9_takes_215 (by decide) ?_
    exact blk216 _ _ now x4 (0 : Int32) ls hP hS (lv_sub hl [0, 1] rfl) hf
  have blk116 : ∀ (H : Heap) (locs : List Loc) (now : Nat → Int32) (x2 : Int32) (x3 : Int32) (x4 : Int32) (y0 : Int32) (ls : Array Slot), va_P D vwCl (mw cI cZ ad un sd now past images iseed kept order numof above pile aside fewest deep keys worths) H → va_S (gA 15 ad) s.heap H locs → lv_has ls 6 [(0, .ref (ad 0)), (2, .int x2), (3, .int x3), (4, .int x4)] → fX9_takes_116 F now x2 x3 x4 y0 = some res → W p l e rX9_takes s m args below meth c H locs 0 0 Q (F0 m 116 ls [.int y0]) := by
    intro H locs now x2 x3 x4 y0 ls hP hS hl hf
    unfold fX9_takes_116 at hf
    refine lv_istore (lv' := [(5, .int y0), (0, .ref (ad 0)), (2, .int x2), (3, .int x3), (4, .int x4)]) hx hb dX9_takes_116 hl (by decide) rfl (fun ls hl => ?_)
    refine lv_aload_n hx hb dX9_takes_118 rfl (lv_at hl 1 rfl) ?_
    refine lv_iload hx hb dX9_takes_119 (lv_at hl 4 rfl) ?_
    refine lv_iload hx hb dX9_takes_121 (lv_at hl 0 rfl) ?_
    refine lv_iload_n hx hb dX9_takes_123 rfl (lv_at hl 3 rfl) ?_
    obtain ⟨q20, hq20, hf⟩ := obE hf
    refine ct_cVv (rest := []) (tX9_hangs hD hq20) hx hb hml hown ht hX hP hS wX9_hangs kML_RX9_75 rfl rfl ⟨Nat.le_of_ble_eq_true rfl, Nat.le_of_ble_eq_true rfl⟩ (va_recv hX.1 hP rfl mw_obj) rfl hl.1 rfl (Nat.le_of_ble_eq_true rfl) dX9_takes_124 (fun H locs hP hS => ?_)
    refine lv_aload_n hx hb dX9_takes_127 rfl (lv_at hl 1 rfl) ?_
    refine lv_iload_n hx hb dX9_takes_128 rfl (lv_at hl 2 rfl) ?_
    refine lv_iconst (v := (0 : Int32)) hx hb dX9_takes_129 (by decide) ?_
    refine lv_iconst (v := (-1 : Int32)) hx hb dX9_takes_130 (by decide) ?_
    obtain ⟨q21, hq21, hf⟩ := obE hf
    refine ct_cVv (rest := []) (tX9_lays hD hq21) hx hb hml hown ht hX hP hS wX9_lays kML_RX9_56 rfl rfl ⟨Nat.le_of_ble_eq_true rfl, Nat.le_of_ble_eq_true rfl⟩ (va_recv hX.1 hP rfl mw_obj) rfl hl.1 rfl (Nat.le_of_ble_eq_true rfl) dX9_takes_131 (fun H locs hP hS => ?_)
    refine lv_aload_n hx hb dX9_takes_134 rfl (lv_at hl 1 rfl) ?_
    refine va_get (ci := 7) (v := .ref (ad 1)) hx hb ht i_X9 hown hX.1 hP 0 mw_obj rfl 0 (by decide) (ht _ kFL_RX9_7) (fun _ h9 => h9) rfl dX9_takes_135 ?_
    refine lv_sipush (v := (361 : Int32)) hx hb dX9_takes_138 (by decide) ?_
    refine lv_dup2_11 hx hb dX9_takes_141 rfl rfl ?_
    obtain ⟨hn22, hf⟩ := ngE _ hf
    refine va_iald hx hb hX.1 hP 1 0 mw_now rfl hn22 dX9_takes_142 ?_
    refine lv_iconst (v := (1 : Int32)) hx hb dX9_takes_143 (by decide) ?_
    refine lv_isub hx hb dX9_takes_144 ?_
    obtain ⟨hn23, hf⟩ := ngE _ hf
    refine va_iast hx hb hX.1 hP (gw_D hD _) hS 1 0 mw_now rfl hn23 dX9_takes_145 (fun H locs hP _ hS => ?_)
    rw [mw_set_now] at hP
    refine lv_iload hx hb dX9_takes_146 (lv_at hl 4 rfl) ?_
    refine lv_iconst (v := (-1 : Int32)) hx hb dX9_takes_148 (by decide) ?_
    refine lv_icmp_eq (tgt := 218) hx hb dX9_takes_149 (by decide) (fun hc24 => ?_) (fun hc24 => ?_)
    · rw [if_pos hc24] at hf
      exact blk218 _ _ (upd q21 (361 : Int32).toNatClampNeg ((q21 (361 : Int32).toNatClampNeg) - (1 : Int32))) x4 y0 ls hP hS (lv_sub hl [1, 4, 0] rfl) hf
    · rw [if_neg hc24] at hf
      refine lv_aload_n hx hb dX9_takes_152 rfl (lv_at hl 1 rfl) ?_
      refine lv_iload hx hb dX9_takes_153 (lv_at hl 4 rfl) ?_
      obtain ⟨q25, hq25, hf⟩ := obE hf
      refine ct_cVi (rest := []) (tX9_hasNoChildren hD hq25) hx hb hml hown ht hX hP hS wX9_hasNoChildren kML_RX9_116 rfl rfl ⟨Nat.le_of_ble_eq_true rfl, Nat.le_of_ble_eq_true rfl⟩ (va_recv hX.1 hP rfl mw_obj) rfl hl.1 rfl (Nat.le_of_ble_eq_true rfl) dX9_takes_155 (fun H locs hP hS => ?_)
      refine lv_if_eq (tgt := 218) hx hb dX9_takes_158 (by decide) (fun hc26 => ?_) (fun hc26 => ?_)
      · rw [if_pos hc26] at hf
        exact blk218 _ _ (upd q21 (361 : Int32).toNatClampNeg ((q21 (361 : Int32).toNatClampNeg) - (1 : Int32))) x4 y0 ls hP hS (lv_sub hl [1, 4, 0] rfl) hf
      · rw [if_neg hc26] at hf
        refine lv_aload_n hx hb dX9_takes_161 rfl (lv_at hl 1 rfl) ?_
        refine lv_iload hx hb dX9_takes_162 (lv_at hl 4 rfl) ?_
        refine lv_iconst (v := (2 : Int32)) hx hb dX9_takes_164 (by decide) ?_
        obtain ⟨q27, hq27, hf⟩ := obE hf
        refine ct_cVi (rest := []) (tX9_of hD hq27) hx hb hml hown ht hX hP hS wX9_of kML_RX9_63 rfl rfl ⟨Nat.le_of_ble_eq_true rfl, Nat.le_of_ble_eq_true rfl⟩ (va_recv hX.1 hP rfl mw_obj) rfl hl.1 rfl (Nat.le_of_ble_eq_true rfl) dX9_takes_165 (fun H locs hP hS => ?_)
        refine lv_iconst (v := (1 : Int32)) hx hb dX9_takes_168 (by decide) ?_
        refine lv_icmp_ne (tgt := 218) hx hb dX9_takes_169 (by decide) (fun hc28 => ?_) (fun hc28 => ?_)
        · rw [if_neg hc28] at hf
          exact blk218 _ _ (upd q21 (361 : Int32).toNatClampNeg ((q21 (361 : Int32).toNatClampNeg) - (1 : Int32))) x4 y0 ls hP hS (lv_sub hl [1, 4, 0] rfl) hf
        · rw [if_pos hc28] at hf
          refine lv_aload_n hx hb dX9_takes_172 rfl (lv_at hl 1 rfl) ?_
          refine lv_iload hx hb dX9_takes_173 (lv_at hl 4 rfl) ?_
          refine lv_iconst (v := (-1 : Int32)) hx hb dX9_takes_175 (by decide) ?_
          obtain ⟨q29, hq29, hf⟩ := obE hf
          refine ct_cVv (rest := []) (tX9_ranks hD hq29) hx hb hml hown ht hX hP hS wX9_ranks kML_RX9_103 rfl rfl ⟨Nat.le_of_ble_eq_true rfl, Nat.le_of_ble_eq_true rfl⟩ (va_recv hX.1 hP rfl mw_obj) rfl hl.1 rfl (Nat.le_of_ble_eq_true rfl) dX9_takes_176 (fun H locs hP hS => ?_)
          refine lv_aload_n hx hb dX9_takes_179 rfl (lv_at hl 1 rfl) ?_
          refine lv_iconst (v := (1 : Int32)) hx hb dX9_takes_180 (by decide) ?_
          obtain ⟨q30, hq30, hf⟩ := obE hf
          refine ct_cVv (rest := []) (tX9_counts hD hq30) hx hb hml hown ht hX hP hS wX9_counts kML_RX9_79 rfl rfl ⟨Nat.le_of_ble_eq_true rfl, Nat.le_of_ble_eq_true rfl⟩ (va_recv hX.1 hP rfl mw_obj) rfl hl.1 rfl (Nat.le_of_ble_eq_true rfl) dX9_takes_181 (fun H locs hP hS => ?_)
          refine lv_iload hx hb dX9_takes_184 (lv_at hl 4 rfl) ?_
          refine lv_istore_n (lv' := [(3, .int x4), (5, .int y0), (0, .ref (ad 0)), (2, .int x2), (4, .int x4)]) hx hb dX9_takes_186 rfl hl (by decide) rfl (fun ls hl => ?_)
          refine lv_aload_n hx hb dX9_takes_187 rfl (lv_at hl 2 rfl) ?_
          refine lv_iload_n hx hb dX9_takes_188 rfl (lv_at hl 0 rfl) ?_
          refine lv_iconst (v := (5 : Int32)) hx hb dX9_takes_189 (by decide) ?_
          obtain ⟨q31, hq31, hf⟩ := obE hf
          refine ct_cVi (rest := []) (tX9_of hD hq31) hx hb hml hown ht hX hP hS wX9_of kML_RX9_63 rfl rfl ⟨Nat.le_of_ble_eq_true rfl, Nat.le_of_ble_eq_true rfl⟩ (va_recv hX.1 hP rfl mw_obj) rfl hl.1 rfl (Nat.le_of_ble_eq_true rfl) dX9_takes_190 (fun H locs hP hS => ?_)
          refine lv_istore (lv' := [(4, .int q31), (3, .int x4), (5, .int y0), (0, .ref (ad 0)), (2, .int x2)]) hx hb dX9_takes_193 hl (by decide) rfl (fun ls hl => ?_)
          refine lv_iload hx hb dX9_takes_195 (lv_at hl 0 rfl) ?_
          refine lv_iconst (v := (-1 : Int32)) hx hb dX9_takes_197 (by decide) ?_
          refine lv_icmp_eq (tgt := 215) hx hb dX9_takes_198 (by decide) (fun hc32 => ?_) (fun hc32 => ?_)
          · rw [if_pos hc32] at hf
            exact blk215 _ _ q30 q31 ls hP hS (lv_sub hl [3, 0] rfl) hf
          · rw [if_neg hc32] at hf
            refine lv_aload_n hx hb dX9_takes_201 rfl (lv_at hl 3 rfl) ?_
            refine lv_iload hx hb dX9_takes_202 (lv_at hl 0 rfl) ?_
            refine lv_iload_n hx hb dX9_takes_204 rfl (lv_at hl 1 rfl) ?_
            obtain ⟨q33, hq33, hf⟩ := obE hf
            refine ct_cVi (rest := []) (tX9_isLeftOf hD hq33) hx hb hml hown ht hX hP hS wX9_isLeftOf kML_RX9_67 rfl rfl ⟨Nat.le_of_ble_eq_true rfl, Nat.le_of_ble_eq_true rfl⟩ (va_recv hX.1 hP rfl mw_obj) rfl hl.1 rfl (Nat.le_of_ble_eq_true rfl) dX9_takes_205 (fun H locs hP hS => ?_)
            refine lv_if_eq (tgt := 215) hx hb dX9_takes_208 (by decide) (fun hc34 => ?_) (fun hc34 => ?_)
            · rw [if_pos hc34] at hf
              exact blk215 _ _ q30 q31 ls hP hS (lv_sub hl [3, 0] rfl) hf
            · rw [if_neg hc34] at hf
              refine lv_iconst (v := (1 : Int32)) hx hb dX9_takes_211 (by decide) ?_
              refine lv_goto (tgt := 216) hx hb dX9_takes_212 (by decide) ?_
              exact blk216 _ _ q30 q31 (1 : Int32) ls hP hS (lv_sub hl [3, 0] rfl) hf
  have blk115 : ∀ (H : Heap) (locs : List Loc) (now : Nat → Int32) (x2 : Int32) (x3 : Int32) (x4 : Int32) (ls : Array Slot), va_P D vwCl (mw cI cZ ad un sd now past images iseed kept order numof above pile aside fewest deep keys worths) H → va_S (gA 15 ad) s.heap H locs → lv_has ls 6 [(0, .ref (ad 0)), (2, .int x2), (3, .int x3), (4, .int x4)] → fX9_takes_115 F now x2 x3 x4 = some res → W p l e rX9_takes s m args below meth c H locs 0 0 Q (F0 m 115 ls []) := by
    intro H locs now x2 x3 x4 ls hP hS hl hf
    unfold fX9_takes_115 at hf
    refine lv_iconst (v := (0 : Int32)) hx hb dX9_takes_115 (by decide) ?_
    exact blk116 _ _ now x2 x3 x4 (0 : Int32) ls hP hS (lv_sub hl [0, 1, 2, 3] rfl) hf
  have blk86 : ∀ (H : Heap) (locs : List Loc) (now : Nat → Int32) (x2 : Int32) (y0 : Int32) (ls : Array Slot), va_P D vwCl (mw cI cZ ad un sd now past images iseed kept order numof above pile aside fewest deep keys worths) H → va_S (gA 15 ad) s.heap H locs → lv_has ls 6 [(0, .ref (ad 0)), (2, .int x2)] → fX9_takes_86 F now x2 y0 = some res → W p l e rX9_takes s m args below meth c H locs 0 0 Q (F0 m 86 ls [.int y0]) := by
    intro H locs now x2 y0 ls hP hS hl hf
    unfold fX9_takes_86 at hf
    refine lv_istore_n (lv' := [(3, .int y0), (0, .ref (ad 0)), (2, .int x2)]) hx hb dX9_takes_86 rfl hl (by decide) rfl (fun ls hl => ?_)
    refine lv_aload_n hx hb dX9_takes_87 rfl (lv_at hl 1 rfl) ?_
    refine lv_iload_n hx hb dX9_takes_88 rfl (lv_at hl 2 rfl) ?_
    refine lv_iconst (v := (5 : Int32)) hx hb dX9_takes_89 (by decide) ?_
    obtain ⟨q16, hq16, hf⟩ := obE hf
    refine ct_cVi (rest := []) (tX9_of hD hq16) hx hb hml hown ht hX hP hS wX9_of kML_RX9_63 rfl rfl ⟨Nat.le_of_ble_eq_true rfl, Nat.le_of_ble_eq_true rfl⟩ (va_recv hX.1 hP rfl mw_obj) rfl hl.1 rfl (Nat.le_of_ble_eq_true rfl) dX9_takes_90 (fun H locs hP hS => ?_)
    refine lv_istore (lv' := [(4, .int q16), (3, .int y0), (0, .ref (ad 0)), (2, .int x2)]) hx hb dX9_takes_93 hl (by decide) rfl (fun ls hl => ?_)
    refine lv_iload hx hb dX9_takes_95 (lv_at hl 0 rfl) ?_
    refine lv_iconst (v := (-1 : Int32)) hx hb dX9_takes_97 (by decide) ?_
    refine lv_icmp_eq (tgt := 115) hx hb dX9_takes_98 (by decide) (fun hc17 => ?_) (fun hc17 => ?_)
    · rw [if_pos hc17] at hf
      exact blk115 _ _ now x2 y0 q16 ls hP hS (lv_sub hl [2, 3, 1, 0] rfl) hf
    · rw [if_neg hc17] at hf
      refine lv_aload_n hx hb dX9_takes_101 rfl (lv_at hl 2 rfl) ?_
      refine lv_iload hx hb dX9_takes_102 (lv_at hl 0 rfl) ?_
      refine lv_iload_n hx hb dX9_takes_104 rfl (lv_at hl 3 rfl) ?_
      obtain ⟨q18, hq18, hf⟩ := obE hf
      refine ct_cVi (rest := []) (tX9_isLeftOf hD hq18) hx hb hml hown ht hX hP hS wX9_isLeftOf kML_RX9_67 rfl rfl ⟨Nat.le_of_ble_eq_true rfl, Nat.le_of_ble_eq_true rfl⟩ (va_recv hX.1 hP rfl mw_obj) rfl hl.1 rfl (Nat.le_of_ble_eq_true rfl) dX9_takes_105 (fun H locs hP hS => ?_)
      refine lv_if_eq (tgt := 115) hx hb dX9_takes_108 (by decide) (fun hc19 => ?_) (fun hc19 => ?_)
      · rw [if_pos hc19] at hf
        exact blk115 _ _ now x2 y0 q16 ls hP hS (lv_sub hl [2, 3, 1, 0] rfl) hf
      · rw [if_neg hc19] at hf
        refine lv_iconst (v := (1 : Int32)) hx hb dX9_takes_111 (by decide) ?_
        refine lv_goto (tgt := 116) hx hb dX9_takes_112 (by decide) ?_
        exact blk116 _ _ now x2 y0 q16 (1 : Int32) ls hP hS (lv_sub hl [2, 3, 1, 0] rfl) hf
  have blk61 : ∀ (H : Heap) (locs : List Loc) (now : Nat → Int32) (x2 : Int32) (ls : Array Slot), va_P D vwCl (mw cI cZ ad un sd now past images iseed kept order numof above pile aside fewest deep keys worths) H → va_S (gA 15 ad) s.heap H locs → lv_has ls 6 [(0, .ref (ad 0)), (2, .int x2)] → fX9_takes_61 F now x2 = some res → W p l e rX9_takes s m args below meth c H locs 0 0 Q (F0 m 61 ls []) := by
    intro H locs now x2 ls hP hS hl hf
    unfold fX9_takes_61 at hf
    refine lv_aload_n hx hb dX9_takes_61 rfl (lv_at hl 0 rfl) ?_
    refine lv_iload_n hx hb dX9_takes_62 rfl (lv_at hl 1 rfl) ?_
    refine lv_iconst (v := (3 : Int32)) hx hb dX9_takes_63 (by decide) ?_
    obtain ⟨q12, hq12, hf⟩ := obE hf
    refine ct_cVi (rest := []) (tX9_of hD hq12) hx hb hml hown ht hX hP hS wX9_of kML_RX9_63 rfl rfl ⟨Nat.le_of_ble_eq_true rfl, Nat.le_of_ble_eq_true rfl⟩ (va_recv hX.1 hP rfl mw_obj) rfl hl.1 rfl (Nat.le_of_ble_eq_true rfl) dX9_takes_64 (fun H locs hP hS => ?_)
    refine lv_iconst (v := (-1 : Int32)) hx hb dX9_takes_67 (by decide) ?_
    refine lv_icmp_ne (tgt := 80) hx hb dX9_takes_68 (by decide) (fun hc13 => ?_) (fun hc13 => ?_)
    · rw [if_neg hc13] at hf
      refine lv_aload_n hx hb dX9_takes_80 rfl (lv_at hl 0 rfl) ?_
      refine lv_iload_n hx hb dX9_takes_81 rfl (lv_at hl 1 rfl) ?_
      refine lv_iconst (v := (3 : Int32)) hx hb dX9_takes_82 (by decide) ?_
      obtain ⟨q14, hq14, hf⟩ := obE hf
      refine ct_cVi (rest := []) (tX9_of hD hq14) hx hb hml hown ht hX hP hS wX9_of kML_RX9_63 rfl rfl ⟨Nat.le_of_ble_eq_true rfl, Nat.le_of_ble_eq_true rfl⟩ (va_recv hX.1 hP rfl mw_obj) rfl hl.1 rfl (Nat.le_of_ble_eq_true rfl) dX9_takes_83 (fun H locs hP hS => ?_)
      exact blk86 _ _ now x2 q14 ls hP hS (lv_sub hl [0, 1] rfl) hf
    · rw [if_pos hc13] at hf
      refine lv_aload_n hx hb dX9_takes_71 rfl (lv_at hl 0 rfl) ?_
      refine lv_iload_n hx hb dX9_takes_72 rfl (lv_at hl 1 rfl) ?_
      refine lv_iconst (v := (4 : Int32)) hx hb dX9_takes_73 (by decide) ?_
      obtain ⟨q15, hq15, hf⟩ := obE hf
      refine ct_cVi (rest := []) (tX9_of hD hq15) hx hb hml hown ht hX hP hS wX9_of kML_RX9_63 rfl rfl ⟨Nat.le_of_ble_eq_true rfl, Nat.le_of_ble_eq_true rfl⟩ (va_recv hX.1 hP rfl mw_obj) rfl hl.1 rfl (Nat.le_of_ble_eq_true rfl) dX9_takes_74 (fun H locs hP hS => ?_)
      refine lv_goto (tgt := 86) hx hb dX9_takes_77 (by decide) ?_
      exact blk86 _ _ now x2 q15 ls hP hS (lv_sub hl [0, 1] rfl) hf
  unfold fX9_takes at hf
  refine lv_iload_n hx hb dX9_takes_0 rfl (lv_at hl 1 rfl) ?_
  refine lv_istore_n (lv' := [(2, .int x1), (0, .ref (ad 0)), (1, .int x1)]) hx hb dX9_takes_1 rfl hl (by decide) rfl (fun ls hl => ?_)
  refine lv_aload_n hx hb dX9_takes_2 rfl (lv_at hl 1 rfl) ?_
  obtain ⟨q1, hq1, hf⟩ := obE hf
  refine ct_cVv (rest := []) (tX9_begins hD hq1) hx hb hml hown ht hX hP hS wX9_begins kML_RX9_94 rfl rfl ⟨Nat.le_of_ble_eq_true rfl, Nat.le_of_ble_eq_true rfl⟩ (va_recv hX.1 hP rfl mw_obj) rfl hl.1 rfl (Nat.le_of_ble_eq_true rfl) dX9_takes_3 (fun H locs hP hS => ?_)
  refine lv_aload_n hx hb dX9_takes_6 rfl (lv_at hl 1 rfl) ?_
  refine lv_iload_n hx hb dX9_takes_7 rfl (lv_at hl 2 rfl) ?_
  refine lv_iconst (v := (3 : Int32)) hx hb dX9_takes_8 (by decide) ?_
  obtain ⟨q2, hq2, hf⟩ := obE hf
  refine ct_cVi (rest := []) (tX9_of hD hq2) hx hb hml hown ht hX hP hS wX9_of kML_RX9_63 rfl rfl ⟨Nat.le_of_ble_eq_true rfl, Nat.le_of_ble_eq_true rfl⟩ (va_recv hX.1 hP rfl mw_obj) rfl hl.1 rfl (Nat.le_of_ble_eq_true rfl) dX9_takes_9 (fun H locs hP hS => ?_)
  refine lv_iconst (v := (-1 : Int32)) hx hb dX9_takes_12 (by decide) ?_
  refine lv_icmp_eq (tgt := 61) hx hb dX9_takes_13 (by decide) (fun hc3 => ?_) (fun hc3 => ?_)
  · rw [if_pos hc3] at hf
    exact blk61 _ _ q1 x1 ls hP hS (lv_sub hl [1, 0] rfl) hf
  · rw [if_neg hc3] at hf
    refine lv_aload_n hx hb dX9_takes_16 rfl (lv_at hl 1 rfl) ?_
    refine lv_iload_n hx hb dX9_takes_17 rfl (lv_at hl 2 rfl) ?_
    refine lv_iconst (v := (4 : Int32)) hx hb dX9_takes_18 (by decide) ?_
    obtain ⟨q4, hq4, hf⟩ := obE hf
    refine ct_cVi (rest := []) (tX9_of hD hq4) hx hb hml hown ht hX hP hS wX9_of kML_RX9_63 rfl rfl ⟨Nat.le_of_ble_eq_true rfl, Nat.le_of_ble_eq_true rfl⟩ (va_recv hX.1 hP rfl mw_obj) rfl hl.1 rfl (Nat.le_of_ble_eq_true rfl) dX9_takes_19 (fun H locs hP hS => ?_)
    refine lv_iconst (v := (-1 : Int32)) hx hb dX9_takes_22 (by decide) ?_
    refine lv_icmp_eq (tgt := 61) hx hb dX9_takes_23 (by decide) (fun hc5 => ?_) (fun hc5 => ?_)
    · rw [if_pos hc5] at hf
      exact blk61 _ _ q1 x1 ls hP hS (lv_sub hl [1, 0] rfl) hf
    · rw [if_neg hc5] at hf
      refine lv_aload_n hx hb dX9_takes_26 rfl (lv_at hl 1 rfl) ?_
      refine lv_aload_n hx hb dX9_takes_27 rfl (lv_at hl 1 rfl) ?_
      refine lv_iload_n hx hb dX9_takes_28 rfl (lv_at hl 2 rfl) ?_
      refine lv_iconst (v := (4 : Int32)) hx hb dX9_takes_29 (by decide) ?_
      obtain ⟨q6, hq6, hf⟩ := obE hf
      refine ct_cVi (rest := [.ref (ad 0)]) (tX9_of hD hq6) hx hb hml hown ht hX hP hS wX9_of kML_RX9_63 rfl rfl ⟨Nat.le_of_ble_eq_true rfl, Nat.le_of_ble_eq_true rfl⟩ (va_recv hX.1 hP rfl mw_obj) rfl hl.1 rfl (Nat.le_of_ble_eq_true rfl) dX9_takes_30 (fun H locs hP hS => ?_)
      obtain ⟨q7, hq7, hf⟩ := obE hf
      refine ct_cVi (rest := []) (tX9_leastBelow hD hq7) hx hb hml hown ht hX hP hS wX9_leastBelow kML_RX9_113 rfl rfl ⟨Nat.le_of_ble_eq_true rfl, Nat.le_of_ble_eq_true rfl⟩ (va_recv hX.1 hP rfl mw_obj) rfl hl.1 rfl (Nat.le_of_ble_eq_true rfl) dX9_takes_33 (fun H locs hP hS => ?_)
      refine lv_istore_n (lv' := [(2, .int q7), (0, .ref (ad 0)), (1, .int x1)]) hx hb dX9_takes_36 rfl hl (by decide) rfl (fun ls hl => ?_)
      refine lv_aload_n hx hb dX9_takes_37 rfl (lv_at hl 1 rfl) ?_
      refine lv_iload_n hx hb dX9_takes_38 rfl (lv_at hl 2 rfl) ?_
      refine lv_iconst (v := (0 : Int32)) hx hb dX9_takes_39 (by decide) ?_
      refine lv_aload_n hx hb dX9_takes_40 rfl (lv_at hl 1 rfl) ?_
      refine lv_iload_n hx hb dX9_takes_41 rfl (lv_at hl 0 rfl) ?_
      refine lv_iconst (v := (0 : Int32)) hx hb dX9_takes_42 (by decide) ?_
      obtain ⟨q8, hq8, hf⟩ := obE hf
      refine ct_cVi (rest := [.int ((0 : Int32)), .int x1, .ref (ad 0)]) (tX9_of hD hq8) hx hb hml hown ht hX hP hS wX9_of kML_RX9_63 rfl rfl ⟨Nat.le_of_ble_eq_true rfl, Nat.le_of_ble_eq_true rfl⟩ (va_recv hX.1 hP rfl mw_obj) rfl hl.1 rfl (Nat.le_of_ble_eq_true rfl) dX9_takes_43 (fun H locs hP hS => ?_)
      obtain ⟨q9, hq9, hf⟩ := obE hf
      refine ct_cVv (rest := []) (tX9_lays hD hq9) hx hb hml hown ht hX hP hS wX9_lays kML_RX9_56 rfl rfl ⟨Nat.le_of_ble_eq_true rfl, Nat.le_of_ble_eq_true rfl⟩ (va_recv hX.1 hP rfl mw_obj) rfl hl.1 rfl (Nat.le_of_ble_eq_true rfl) dX9_takes_46 (fun H locs hP hS => ?_)
      refine lv_aload_n hx hb dX9_takes_49 rfl (lv_at hl 1 rfl) ?_
      refine lv_iload_n hx hb dX9_takes_50 rfl (lv_at hl 2 rfl) ?_
      refine lv_iconst (v := (1 : Int32)) hx hb dX9_takes_51 (by decide) ?_
      refine lv_aload_n hx hb dX9_takes_52 rfl (lv_at hl 1 rfl) ?_
      refine lv_iload_n hx hb dX9_takes_53 rfl (lv_at hl 0 rfl) ?_
      refine lv_iconst (v := (1 : Int32)) hx hb dX9_takes_54 (by decide) ?_
      obtain ⟨q10, hq10, hf⟩ := obE hf
      refine ct_cVi (rest := [.int ((1 : Int32)), .int x1, .ref (ad 0)]) (tX9_of hD hq10) hx hb hml hown ht hX hP hS wX9_of kML_RX9_63 rfl rfl ⟨Nat.le_of_ble_eq_true rfl, Nat.le_of_ble_eq_true rfl⟩ (va_recv hX.1 hP rfl mw_obj) rfl hl.1 rfl (Nat.le_of_ble_eq_true rfl) dX9_takes_55 (fun H locs hP hS => ?_)
      obtain ⟨q11, hq11, hf⟩ := obE hf
      refine ct_cVv (rest := []) (tX9_lays hD hq11) hx hb hml hown ht hX hP hS wX9_lays kML_RX9_56 rfl rfl ⟨Nat.le_of_ble_eq_true rfl, Nat.le_of_ble_eq_true rfl⟩ (va_recv hX.1 hP rfl mw_obj) rfl hl.1 rfl (Nat.le_of_ble_eq_true rfl) dX9_takes_58 (fun H locs hP hS => ?_)
      exact blk61 _ _ q11 q7 ls hP hS (lv_sub hl [1, 0] rfl) hf
def fX9_numbers_87 (F : Nat) (now : Nat → Int32) (k34 : (Nat → Int32) → (Nat → Int32) → (Nat → Int32) → (Nat → Int32) → Int32 → Int32 → Option ((Nat → Int32) × (Nat → Int32) × (Nat → Int32) × (Nat → Int32))) (k68 : (Nat → Int32) → (Nat → Int32) → (Nat → Int32) → (Nat → Int32) → Int32 → Int32 → Int32 → Int32 → Option ((Nat → Int32) × (Nat → Int32) × (Nat → Int32) × (Nat → Int32))) (order : Nat → Int32) (numof : Nat → Int32) (above : Nat → Int32) (pile : Nat → Int32) (x1 : Int32) (x2 : Int32) (x3 : Int32) (x4 : Int32) (y1 : Int32) (y2 : Int32) : Option ((Nat → Int32) × (Nat → Int32) × (Nat → Int32) × (Nat → Int32)) := (fX9_child F now y1 y2).bind fun q13 => (if q13 = (-1 : Int32) then (k68 order numof above pile x1 x2 x3 (x4 + (1 : Int32))) else (if x2 < 0 ∨ 61 ≤ x2.toNatClampNeg then none else (if x3 < 0 ∨ 60 ≤ x3.toNatClampNeg then none else (if q13 < 0 ∨ 60 ≤ q13.toNatClampNeg then none else (k68 order numof (upd above q13.toNatClampNeg ((above x3.toNatClampNeg) + (1 : Int32))) (upd pile x2.toNatClampNeg q13) x1 (x2 + (1 : Int32)) x3 (x4 + (1 : Int32)))))))
def fX9_numbers_68 (F : Nat) (now : Nat → Int32) (k34 : (Nat → Int32) → (Nat → Int32) → (Nat → Int32) → (Nat → Int32) → Int32 → Int32 → Option ((Nat → Int32) × (Nat → Int32) × (Nat → Int32) × (Nat → Int32))) : Nat → (Nat → Int32) → (Nat → Int32) → (Nat → Int32) → (Nat → Int32) → Int32 → Int32 → Int32 → Int32 → Option ((Nat → Int32) × (Nat → Int32) × (Nat → Int32) × (Nat → Int32))
  | 0, _, _, _, _, _, _, _, _ => none
  | n + 1, order, numof, above, pile, x1, x2, x3, x4 => if (2 : Int32) ≤ x4 then (k34 order numof above pile x1 x2) else (if x4 = (1 : Int32) then (fX9_numbers_87 F now k34 (fun order numof above pile x1 x2 x3 x4 => fX9_numbers_68 F now k34 n order numof above pile x1 x2 x3 x4) order numof above pile x1 x2 x3 x4 x3 (1 : Int32)) else (fX9_numbers_87 F now k34 (fun order numof above pile x1 x2 x3 x4 => fX9_numbers_68 F now k34 n order numof above pile x1 x2 x3 x4) order numof above pile x1 x2 x3 x4 x3 (0 : Int32)))
def fX9_numbers_34 (F : Nat) (now : Nat → Int32) : Nat → (Nat → Int32) → (Nat → Int32) → (Nat → Int32) → (Nat → Int32) → Int32 → Int32 → Option ((Nat → Int32) × (Nat → Int32) × (Nat → Int32) × (Nat → Int32))
  | 0, _, _, _, _, _, _ => none
  | n + 1, order, numof, above, pile, x1, x2 => if x2 ≤ 0 then (some (order, numof, above, pile)) else (if (x2 + (-1 : Int32)) < 0 ∨ 61 ≤ (x2 + (-1 : Int32)).toNatClampNeg then none else (if x1 < 0 ∨ 60 ≤ x1.toNatClampNeg then none else (if (pile (x2 + (-1 : Int32)).toNatClampNeg) < 0 ∨ 60 ≤ (pile (x2 + (-1 : Int32)).toNatClampNeg).toNatClampNeg then none else (fX9_numbers_68 F now (fun order numof above pile x1 x2 => fX9_numbers_34 F now n order numof above pile x1 x2) F (upd order x1.toNatClampNeg (pile (x2 + (-1 : Int32)).toNatClampNeg)) (upd numof (pile (x2 + (-1 : Int32)).toNatClampNeg).toNatClampNeg x1) above pile (x1 + (1 : Int32)) (x2 + (-1 : Int32)) (pile (x2 + (-1 : Int32)).toNatClampNeg) (0 : Int32)))))
def fX9_numbers (F : Nat) (now : Nat → Int32) (order : Nat → Int32) (numof : Nat → Int32) (above : Nat → Int32) (pile : Nat → Int32) : Option ((Nat → Int32) × (Nat → Int32) × (Nat → Int32) × (Nat → Int32)) := (fX9_top F now).bind fun q1 => (if q1 = (-1 : Int32) then (fX9_numbers_34 F now F order numof above pile (0 : Int32) (0 : Int32)) else ((fX9_top F now).bind fun q3 => (if (0 : Int32) < 0 ∨ 61 ≤ (0 : Int32).toNatClampNeg then none else ((fX9_top F now).bind fun q5 => (if q5 < 0 ∨ 60 ≤ q5.toNatClampNeg then none else (fX9_numbers_34 F now F order numof (upd above q5.toNatClampNeg (0 : Int32)) (upd pile (0 : Int32).toNatClampNeg q3) (0 : Int32) (1 : Int32)))))))
abbrev rX9_numbers : Room := { frames := 2, cells := 0, slots := 0, locals := 44 }
theorem wX9_numbers : kV yX9_numbers cX9_numbers 6 none 0 := ⟨kCO_yX9_numbers, kIM_yX9_numbers, kSE_yX9_numbers, kIN_RX9, by decide +kernel, by decide +kernel, by decide +kernel⟩
set_option maxHeartbeats 4000000 in
set_option maxRecDepth 100000 in
theorem tX9_numbers {l : Launch} {D : va_G} {cI cZ : ClassId} {ad : Nat → Nat} (hD : gInj 15 ad) {F : Nat} {un sd : Int32} {now past images iseed kept order numof above pile aside fewest deep keys worths : Nat → Int32} {res : (Nat → Int32) × (Nat → Int32) × (Nat → Int32) × (Nat → Int32)} (hf : fX9_numbers F now order numof above pile = some res) : CTv l yX9_numbers cX9_numbers 6 rX9_numbers D (mTy cI cZ) (gA 15 ad) [.ref (ad 0)] (mw cI cZ ad un sd now past images iseed kept order numof above pile aside fewest deep keys worths) (mw cI cZ ad un sd now past images iseed kept res.1 res.2.1 res.2.2.1 res.2.2.2 aside fewest deep keys worths) := by
  refine ct_void (by decide) (Nat.le_of_ble_eq_true rfl) ?_
  intro p e s m args below meth c Q ls hx hb hml hown ht hX hret hP hS hl
  have hl : lv_has ls 6 [(0, .ref (ad 0))] := hl
  have blk34 : ∀ (n34 : Nat) (H : Heap) (locs : List Loc) (order : Nat → Int32) (numof : Nat → Int32) (above : Nat → Int32) (pile : Nat → Int32) (x1 : Int32) (x2 : Int32) (ls : Array Slot), va_P D vwCl (mw cI cZ ad un sd now past images iseed kept order numof above pile aside fewest deep keys worths) H → va_S (gA 15 ad) s.heap H locs → lv_has ls 6 [(0, .ref (ad 0)), (1, .int x1), (2, .int x2)] → fX9_numbers_34 F now n34 order numof above pile x1 x2 = some res → W p l e rX9_numbers s m args below meth c H locs 0 0 Q (F0 m 34 ls []) := by
    intro n34
    induction n34 with
    | zero =>
      intro H locs order numof above pile x1 x2 ls hP hS hl hf
      rw [fX9_numbers_34] at hf
      cases hf
    | succ n34 ih34 =>
      skip
      have blk68 : ∀ (n68 : Nat) (H : Heap) (locs : List Loc) (order : Nat → Int32) (numof : Nat → Int32) (above : Nat → Int32) (pile : Nat → Int32) (x1 : Int32) (x2 : Int32) (x3 : Int32) (x4 : Int32) (ls : Array Slot), va_P D vwCl (mw cI cZ ad un sd now past images iseed kept order numof above pile aside fewest deep keys worths) H → va_S (gA 15 ad) s.heap H locs → lv_has ls 6 [(0, .ref (ad 0)), (1, .int x1), (2, .int x2), (3, .int x3), (4, .int x4)] → fX9_numbers_68 F now (fun order numof above pile x1 x2 => fX9_numbers_34 F now n34 order numof above pile x1 x2) n68 order numof above pile x1 x2 x3 x4 = some res → W p l e rX9_numbers s m args below meth c H locs 0 0 Q (F0 m 68 ls []) := by
        intro n68
        induction n68 with
        | zero =>
          intro H locs order numof above pile x1 x2 x3 x4 ls hP hS hl hf
          rw [fX9_numbers_68] at hf
          cases hf
        | succ n68 ih68 =>
          skip
          have blk87 : ∀ (H : Heap) (locs : List Loc) (order : Nat → Int32) (numof : Nat → Int32) (above : Nat → Int32) (pile : Nat → Int32) (x1 : Int32) (x2 : Int32) (x3 : Int32) (x4 : Int32) (y1 : Int32) (y2 : Int32) (ls : Array Slot), va_P D vwCl (mw cI cZ ad un sd now past images iseed kept order numof above pile aside fewest deep keys worths) H → va_S (gA 15 ad) s.heap H locs → lv_has ls 6 [(0, .ref (ad 0)), (1, .int x1), (2, .int x2), (3, .int x3), (4, .int x4)] → fX9_numbers_87 F now (fun order numof above pile x1 x2 => fX9_numbers_34 F now n34 order numof above pile x1 x2) (fun order numof above pile x1 x2 x3 x4 => fX9_numbers_68 F now (fun order numof above pile x1 x2 => fX9_numbers_34 F now n34 order numof above pile x1 x2) n68 order numof above pile x1 x2 x3 x4) order numof above pile x1 x2 x3 x4 y1 y2 = some res → W p l e rX9_numbers s m args below meth c H locs 0 0 Q (F0 m 87 ls [.int y2, .int y1, .ref (ad 0)]) := by
            intro H locs order numof above pile x1 x2 x3 x4 y1 y2 ls hP hS hl hf
            unfold fX9_numbers_87 at hf
            obtain ⟨q13, hq13, hf⟩ := obE hf
            refine ct_cVi (rest := []) (tX9_child hD hq13) hx hb hml hown ht hX hP hS wX9_child kML_RX9_71 rfl rfl ⟨Nat.le_of_ble_eq_true rfl, Nat.le_of_ble_eq_true rfl⟩ (va_recv hX.1 hP rfl mw_obj) rfl hl.1 rfl (Nat.le_of_ble_eq_true rfl) dX9_numbers_87 (fun H locs hP hS => ?_)
            refine lv_istore (lv' := [(5, .int q13), (0, .ref (ad 0)), (1, .int x1), (2, .int x2), (3, .int x3), (4, .int x4)]) hx hb dX9_numbers_90 hl (by decide) rfl (fun ls hl => ?_)
            refine lv_iload hx hb dX9_numbers_92 (lv_at hl 0 rfl) ?_
            refine lv_iconst (v := (-1 : Int32)) hx hb dX9_numbers_94 (by decide) ?_
            refine lv_icmp_eq (tgt := 124) hx hb dX9_numbers_95 (by decide) (fun hc14 => ?_) (fun hc14 => ?_)
            · rw [if_pos hc14] at hf
              refine lv_iinc (v := x4 + (1 : Int32)) (lv' := [(4, .int (x4 + (1 : Int32))), (5, .int q13), (0, .ref (ad 0)), (1, .int x1), (2, .int x2), (3, .int x3)]) hx hb dX9_numbers_124 hl (k := 5) rfl rfl (by decide) rfl (fun ls hl => ?_)
              refine lv_goto (tgt := 68) hx hb dX9_numbers_127 (by decide) ?_
              exact ih68 _ _ order numof above pile x1 x2 x3 (x4 + (1 : Int32)) ls hP hS (lv_sub hl [2, 3, 4, 5, 0] rfl) hf
            · rw [if_neg hc14] at hf
              refine lv_aload_n hx hb dX9_numbers_98 rfl (lv_at hl 1 rfl) ?_
              refine va_get (ci := 7) (v := .ref (ad 9)) hx hb ht i_X9 hown hX.1 hP 0 mw_obj rfl 10 (by decide) (ht _ kFL_RX9_35) (fun _ h9 => h9) rfl dX9_numbers_99 ?_
              refine lv_iload_n hx hb dX9_numbers_102 rfl (lv_at hl 3 rfl) ?_
              refine lv_iload hx hb dX9_numbers_103 (lv_at hl 0 rfl) ?_
              obtain ⟨hn15, hf⟩ := ngE _ hf
              refine va_iast hx hb hX.1 hP (gw_D hD _) hS 9 0 mw_pile rfl hn15 dX9_numbers_105 (fun H locs hP _ hS => ?_)
              rw [mw_set_pile] at hP
              refine lv_aload_n hx hb dX9_numbers_106 rfl (lv_at hl 1 rfl) ?_
              refine va_get (ci := 7) (v := .ref (ad 8)) hx hb ht i_X9 hown hX.1 hP 0 mw_obj rfl 9 (by decide) (ht _ kFL_RX9_32) (fun _ h9 => h9) rfl dX9_numbers_107 ?_
              refine lv_iload hx hb dX9_numbers_110 (lv_at hl 0 rfl) ?_
              refine lv_aload_n hx hb dX9_numbers_112 rfl (lv_at hl 1 rfl) ?_
              refine va_get (ci := 7) (v := .ref (ad 8)) hx hb ht i_X9 hown hX.1 hP 0 mw_obj rfl 9 (by decide) (ht _ kFL_RX9_32) (fun _ h9 => h9) rfl dX9_numbers_113 ?_
              refine lv_iload_n hx hb dX9_numbers_116 rfl (lv_at hl 4 rfl) ?_
              obtain ⟨hn16, hf⟩ := ngE _ hf
              refine va_iald hx hb hX.1 hP 8 0 mw_above rfl hn16 dX9_numbers_117 ?_
              refine lv_iconst (v := (1 : Int32)) hx hb dX9_numbers_118 (by decide) ?_
              refine lv_iadd hx hb dX9_numbers_119 ?_
              obtain ⟨hn17, hf⟩ := ngE _ hf
              refine va_iast hx hb hX.1 hP (gw_D hD _) hS 8 0 mw_above rfl hn17 dX9_numbers_120 (fun H locs hP _ hS => ?_)
              rw [mw_set_above] at hP
              refine lv_iinc (v := x2 + (1 : Int32)) (lv' := [(2, .int (x2 + (1 : Int32))), (5, .int q13), (0, .ref (ad 0)), (1, .int x1), (3, .int x3), (4, .int x4)]) hx hb dX9_numbers_121 hl (k := 3) rfl rfl (by decide) rfl (fun ls hl => ?_)
              refine lv_iinc (v := x4 + (1 : Int32)) (lv' := [(4, .int (x4 + (1 : Int32))), (2, .int (x2 + (1 : Int32))), (5, .int q13), (0, .ref (ad 0)), (1, .int x1), (3, .int x3)]) hx hb dX9_numbers_124 hl (k := 5) rfl rfl (by decide) rfl (fun ls hl => ?_)
              refine lv_goto (tgt := 68) hx hb dX9_numbers_127 (by decide) ?_
              exact ih68 _ _ order numof (upd above q13.toNatClampNeg ((above x3.toNatClampNeg) + (1 : Int32))) (upd pile x2.toNatClampNeg q13) x1 (x2 + (1 : Int32)) x3 (x4 + (1 : Int32)) ls hP hS (lv_sub hl [3, 4, 1, 5, 0] rfl) hf
          intro H locs order numof above pile x1 x2 x3 x4 ls hP hS hl hf
          rw [fX9_numbers_68] at hf
          refine lv_iload hx hb dX9_numbers_68 (lv_at hl 4 rfl) ?_
          refine lv_iconst (v := (2 : Int32)) hx hb dX9_numbers_70 (by decide) ?_
          refine lv_icmp_ge (tgt := 130) hx hb dX9_numbers_71 (by decide) (fun hc11 => ?_) (fun hc11 => ?_)
          · rw [if_pos hc11] at hf
            refine lv_goto (tgt := 34) hx hb dX9_numbers_130 (by decide) ?_
            exact ih34 _ _ order numof above pile x1 x2 ls hP hS (lv_sub hl [0, 1, 2] rfl) hf
          · rw [if_neg hc11] at hf
            refine lv_aload_n hx hb dX9_numbers_74 rfl (lv_at hl 0 rfl) ?_
            refine lv_iload_n hx hb dX9_numbers_75 rfl (lv_at hl 3 rfl) ?_
            refine lv_iload hx hb dX9_numbers_76 (lv_at hl 4 rfl) ?_
            refine lv_iconst (v := (1 : Int32)) hx hb dX9_numbers_78 (by decide) ?_
            refine lv_icmp_ne (tgt := 86) hx hb dX9_numbers_79 (by decide) (fun hc12 => ?_) (fun hc12 => ?_)
            · rw [if_neg hc12] at hf
              refine lv_iconst (v := (0 : Int32)) hx hb dX9_numbers_86 (by decide) ?_
              exact blk87 _ _ order numof above pile x1 x2 x3 x4 x3 (0 : Int32) ls hP hS (lv_sub hl [0, 1, 2, 3, 4] rfl) hf
            · rw [if_pos hc12] at hf
              refine lv_iconst (v := (1 : Int32)) hx hb dX9_numbers_82 (by decide) ?_
              refine lv_goto (tgt := 87) hx hb dX9_numbers_83 (by decide) ?_
              exact blk87 _ _ order numof above pile x1 x2 x3 x4 x3 (1 : Int32) ls hP hS (lv_sub hl [0, 1, 2, 3, 4] rfl) hf
      intro H locs order numof above pile x1 x2 ls hP hS hl hf
      rw [fX9_numbers_34] at hf
      refine lv_iload_n hx hb dX9_numbers_34 rfl (lv_at hl 2 rfl) ?_
      refine lv_if_le (tgt := 133) hx hb dX9_numbers_35 (by decide) (fun hc7 => ?_) (fun hc7 => ?_)
      · rw [if_pos hc7] at hf
        have e0 := Option.some.inj hf
        subst e0
        exact hret _ _ _ _ hP hS dX9_numbers_133
      · rw [if_neg hc7] at hf
        refine lv_iinc (v := x2 + (-1 : Int32)) (lv' := [(2, .int (x2 + (-1 : Int32))), (0, .ref (ad 0)), (1, .int x1)]) hx hb dX9_numbers_38 hl (k := 2) rfl rfl (by decide) rfl (fun ls hl => ?_)
        refine lv_aload_n hx hb dX9_numbers_41 rfl (lv_at hl 1 rfl) ?_
        refine va_get (ci := 7) (v := .ref (ad 9)) hx hb ht i_X9 hown hX.1 hP 0 mw_obj rfl 10 (by decide) (ht _ kFL_RX9_35) (fun _ h9 => h9) rfl dX9_numbers_42 ?_
        refine lv_iload_n hx hb dX9_numbers_45 rfl (lv_at hl 0 rfl) ?_
        obtain ⟨hn8, hf⟩ := ngE _ hf
        refine va_iald hx hb hX.1 hP 9 0 mw_pile rfl hn8 dX9_numbers_46 ?_
        refine lv_istore_n (lv' := [(3, .int (pile (x2 + (-1 : Int32)).toNatClampNeg)), (2, .int (x2 + (-1 : Int32))), (0, .ref (ad 0)), (1, .int x1)]) hx hb dX9_numbers_47 rfl hl (by decide) rfl (fun ls hl => ?_)
        refine lv_aload_n hx hb dX9_numbers_48 rfl (lv_at hl 2 rfl) ?_
        refine va_get (ci := 7) (v := .ref (ad 6)) hx hb ht i_X9 hown hX.1 hP 0 mw_obj rfl 7 (by decide) (ht _ kFL_RX9_26) (fun _ h9 => h9) rfl dX9_numbers_49 ?_
        refine lv_iload_n hx hb dX9_numbers_52 rfl (lv_at hl 3 rfl) ?_
        refine lv_iload_n hx hb dX9_numbers_53 rfl (lv_at hl 0 rfl) ?_
        obtain ⟨hn9, hf⟩ := ngE _ hf
        refine va_iast hx hb hX.1 hP (gw_D hD _) hS 6 0 mw_order rfl hn9 dX9_numbers_54 (fun H locs hP _ hS => ?_)
        rw [mw_set_order] at hP
        refine lv_aload_n hx hb dX9_numbers_55 rfl (lv_at hl 2 rfl) ?_
        refine va_get (ci := 7) (v := .ref (ad 7)) hx hb ht i_X9 hown hX.1 hP 0 mw_obj rfl 8 (by decide) (ht _ kFL_RX9_29) (fun _ h9 => h9) rfl dX9_numbers_56 ?_
        refine lv_iload_n hx hb dX9_numbers_59 rfl (lv_at hl 0 rfl) ?_
        refine lv_iload_n hx hb dX9_numbers_60 rfl (lv_at hl 3 rfl) ?_
        obtain ⟨hn10, hf⟩ := ngE _ hf
        refine va_iast hx hb hX.1 hP (gw_D hD _) hS 7 0 mw_numof rfl hn10 dX9_numbers_61 (fun H locs hP _ hS => ?_)
        rw [mw_set_numof] at hP
        refine lv_iinc (v := x1 + (1 : Int32)) (lv' := [(1, .int (x1 + (1 : Int32))), (3, .int (pile (x2 + (-1 : Int32)).toNatClampNeg)), (2, .int (x2 + (-1 : Int32))), (0, .ref (ad 0))]) hx hb dX9_numbers_62 hl (k := 3) rfl rfl (by decide) rfl (fun ls hl => ?_)
        refine lv_iconst (v := (0 : Int32)) hx hb dX9_numbers_65 (by decide) ?_
        refine lv_istore (lv' := [(4, .int ((0 : Int32))), (1, .int (x1 + (1 : Int32))), (3, .int (pile (x2 + (-1 : Int32)).toNatClampNeg)), (2, .int (x2 + (-1 : Int32))), (0, .ref (ad 0))]) hx hb dX9_numbers_66 hl (by decide) rfl (fun ls hl => ?_)
        exact blk68 F _ _ (upd order x1.toNatClampNeg (pile (x2 + (-1 : Int32)).toNatClampNeg)) (upd numof (pile (x2 + (-1 : Int32)).toNatClampNeg).toNatClampNeg x1) above pile (x1 + (1 : Int32)) (x2 + (-1 : Int32)) (pile (x2 + (-1 : Int32)).toNatClampNeg) (0 : Int32) ls hP hS (lv_sub hl [4, 1, 3, 2, 0] rfl) hf
  unfold fX9_numbers at hf
  refine lv_iconst (v := (0 : Int32)) hx hb dX9_numbers_0 (by decide) ?_
  refine lv_istore_n (lv' := [(1, .int ((0 : Int32))), (0, .ref (ad 0))]) hx hb dX9_numbers_1 rfl hl (by decide) rfl (fun ls hl => ?_)
  refine lv_iconst (v := (0 : Int32)) hx hb dX9_numbers_2 (by decide) ?_
  refine lv_istore_n (lv' := [(2, .int ((0 : Int32))), (1, .int ((0 : Int32))), (0, .ref (ad 0))]) hx hb dX9_numbers_3 rfl hl (by decide) rfl (fun ls hl => ?_)
  refine lv_aload_n hx hb dX9_numbers_4 rfl (lv_at hl 2 rfl) ?_
  obtain ⟨q1, hq1, hf⟩ := obE hf
  refine ct_cVi (rest := []) (tX9_top hD hq1) hx hb hml hown ht hX hP hS wX9_top kML_RX9_87 rfl rfl ⟨Nat.le_of_ble_eq_true rfl, Nat.le_of_ble_eq_true rfl⟩ (va_recv hX.1 hP rfl mw_obj) rfl hl.1 rfl (Nat.le_of_ble_eq_true rfl) dX9_numbers_5 (fun H locs hP hS => ?_)
  refine lv_iconst (v := (-1 : Int32)) hx hb dX9_numbers_8 (by decide) ?_
  refine lv_icmp_eq (tgt := 34) hx hb dX9_numbers_9 (by decide) (fun hc2 => ?_) (fun hc2 => ?_)
  · rw [if_pos hc2] at hf
    exact blk34 F _ _ order numof above pile (0 : Int32) (0 : Int32) ls hP hS (lv_sub hl [2, 1, 0] rfl) hf
  · rw [if_neg hc2] at hf
    refine lv_aload_n hx hb dX9_numbers_12 rfl (lv_at hl 2 rfl) ?_
    refine va_get (ci := 7) (v := .ref (ad 9)) hx hb ht i_X9 hown hX.1 hP 0 mw_obj rfl 10 (by decide) (ht _ kFL_RX9_35) (fun _ h9 => h9) rfl dX9_numbers_13 ?_
    refine lv_iconst (v := (0 : Int32)) hx hb dX9_numbers_16 (by decide) ?_
    refine lv_aload_n hx hb dX9_numbers_17 rfl (lv_at hl 2 rfl) ?_
    obtain ⟨q3, hq3, hf⟩ := obE hf
    refine ct_cVi (rest := [.int ((0 : Int32)), .ref (ad 9)]) (tX9_top hD hq3) hx hb hml hown ht hX hP hS wX9_top kML_RX9_87 rfl rfl ⟨Nat.le_of_ble_eq_true rfl, Nat.le_of_ble_eq_true rfl⟩ (va_recv hX.1 hP rfl mw_obj) rfl hl.1 rfl (Nat.le_of_ble_eq_true rfl) dX9_numbers_18 (fun H locs hP hS => ?_)
    obtain ⟨hn4, hf⟩ := ngE _ hf
    refine va_iast hx hb hX.1 hP (gw_D hD _) hS 9 0 mw_pile rfl hn4 dX9_numbers_21 (fun H locs hP _ hS => ?_)
    rw [mw_set_pile] at hP
    refine lv_aload_n hx hb dX9_numbers_22 rfl (lv_at hl 2 rfl) ?_
    refine va_get (ci := 7) (v := .ref (ad 8)) hx hb ht i_X9 hown hX.1 hP 0 mw_obj rfl 9 (by decide) (ht _ kFL_RX9_32) (fun _ h9 => h9) rfl dX9_numbers_23 ?_
    refine lv_aload_n hx hb dX9_numbers_26 rfl (lv_at hl 2 rfl) ?_
    obtain ⟨q5, hq5, hf⟩ := obE hf
    refine ct_cVi (rest := [.ref (ad 8)]) (tX9_top hD hq5) hx hb hml hown ht hX hP hS wX9_top kML_RX9_87 rfl rfl ⟨Nat.le_of_ble_eq_true rfl, Nat.le_of_ble_eq_true rfl⟩ (va_recv hX.1 hP rfl mw_obj) rfl hl.1 rfl (Nat.le_of_ble_eq_true rfl) dX9_numbers_27 (fun H locs hP hS => ?_)
    refine lv_iconst (v := (0 : Int32)) hx hb dX9_numbers_30 (by decide) ?_
    obtain ⟨hn6, hf⟩ := ngE _ hf
    refine va_iast hx hb hX.1 hP (gw_D hD _) hS 8 0 mw_above rfl hn6 dX9_numbers_31 (fun H locs hP _ hS => ?_)
    rw [mw_set_above] at hP
    refine lv_iconst (v := (1 : Int32)) hx hb dX9_numbers_32 (by decide) ?_
    refine lv_istore_n (lv' := [(2, .int ((1 : Int32))), (1, .int ((0 : Int32))), (0, .ref (ad 0))]) hx hb dX9_numbers_33 rfl hl (by decide) rfl (fun ls hl => ?_)
    exact blk34 F _ _ order numof (upd above q5.toNatClampNeg (0 : Int32)) (upd pile (0 : Int32).toNatClampNeg q3) (0 : Int32) (1 : Int32) ls hP hS (lv_sub hl [2, 1, 0] rfl) hf
def fX9_sizeOf_9 (F : Nat) (now : Nat → Int32) (order : Nat → Int32) (numof : Nat → Int32) (above : Nat → Int32) : Nat → Int32 → Int32 → Int32 → Option (Int32)
  | 0, _, _, _ => none
  | n + 1, x1, x2, x3 => (fX9_many F now).bind fun q2 => (if q2 ≤ (x3 + x2) then (some x2) else (if x2 = 0 then (fX9_sizeOf_9 F now order numof above n x1 (x2 + (1 : Int32)) x3) else (if (x3 + x2) < 0 ∨ 60 ≤ (x3 + x2).toNatClampNeg then none else (if (order (x3 + x2).toNatClampNeg) < 0 ∨ 60 ≤ (order (x3 + x2).toNatClampNeg).toNatClampNeg then none else (if x1 < 0 ∨ 60 ≤ x1.toNatClampNeg then none else (if (above (order (x3 + x2).toNatClampNeg).toNatClampNeg) ≤ (above x1.toNatClampNeg) then (some x2) else (fX9_sizeOf_9 F now order numof above n x1 (x2 + (1 : Int32)) x3)))))))
def fX9_sizeOf (F : Nat) (now : Nat → Int32) (order : Nat → Int32) (numof : Nat → Int32) (above : Nat → Int32) (x1 : Int32) : Option (Int32) := if x1 < 0 ∨ 60 ≤ x1.toNatClampNeg then none else (fX9_sizeOf_9 F now order numof above F x1 (0 : Int32) (numof x1.toNatClampNeg))
abbrev rX9_sizeOf : Room := { frames := 1, cells := 0, slots := 0, locals := 20 }
theorem wX9_sizeOf : kV yX9_sizeOf cX9_sizeOf 4 (some .int) 1 := ⟨kCO_yX9_sizeOf, kIM_yX9_sizeOf, kSE_yX9_sizeOf, kIN_RX9, by decide +kernel, by decide +kernel, by decide +kernel⟩
set_option maxHeartbeats 4000000 in
set_option maxRecDepth 100000 in
theorem tX9_sizeOf {l : Launch} {D : va_G} {cI cZ : ClassId} {ad : Nat → Nat} (hD : gInj 15 ad) {F : Nat} {un sd : Int32} {now past images iseed kept order numof above pile aside fewest deep keys worths : Nat → Int32} {x1 : Int32} {res : Int32} (hf : fX9_sizeOf F now order numof above x1 = some res) : CTi l yX9_sizeOf cX9_sizeOf 4 .int rX9_sizeOf D (mTy cI cZ) (gA 15 ad) [.ref (ad 0), .int x1] (mw cI cZ ad un sd now past images iseed kept order numof above pile aside fewest deep keys worths) res (mw cI cZ ad un sd now past images iseed kept order numof above pile aside fewest deep keys worths) := by
  refine ct_int (by decide) (Nat.le_of_ble_eq_true rfl) ?_
  intro p e s m args below meth c Q ls hx hb hml hown ht hX hret hP hS hl
  have hl : lv_has ls 4 [(0, .ref (ad 0)), (1, .int x1)] := hl
  have blk9 : ∀ (n9 : Nat) (H : Heap) (locs : List Loc) (x1 : Int32) (x2 : Int32) (x3 : Int32) (ls : Array Slot), va_P D vwCl (mw cI cZ ad un sd now past images iseed kept order numof above pile aside fewest deep keys worths) H → va_S (gA 15 ad) s.heap H locs → lv_has ls 4 [(0, .ref (ad 0)), (1, .int x1), (2, .int x2), (3, .int x3)] → fX9_sizeOf_9 F now order numof above n9 x1 x2 x3 = some res → W p l e rX9_sizeOf s m args below meth c H locs 0 0 Q (F0 m 9 ls []) := by
    intro n9
    induction n9 with
    | zero =>
      intro H locs x1 x2 x3 ls hP hS hl hf
      rw [fX9_sizeOf_9] at hf
      cases hf
    | succ n9 ih9 =>
      skip
      intro H locs x1 x2 x3 ls hP hS hl hf
      rw [fX9_sizeOf_9] at hf
      refine lv_iload_n hx hb dX9_sizeOf_9 rfl (lv_at hl 3 rfl) ?_
      refine lv_iload_n hx hb dX9_sizeOf_10 rfl (lv_at hl 2 rfl) ?_
      refine lv_iadd hx hb dX9_sizeOf_11 ?_
      refine lv_aload_n hx hb dX9_sizeOf_12 rfl (lv_at hl 0 rfl) ?_
      obtain ⟨q2, hq2, hf⟩ := obE hf
      refine ct_cVi (rest := [.int (x3 + x2)]) (tX9_many hD hq2) hx hb hml hown ht hX hP hS wX9_many kML_RX9_128 rfl rfl ⟨Nat.le_of_ble_eq_true rfl, Nat.le_of_ble_eq_true rfl⟩ (va_recv hX.1 hP rfl mw_obj) rfl hl.1 rfl (Nat.le_of_ble_eq_true rfl) dX9_sizeOf_13 (fun H locs hP hS => ?_)
      refine lv_icmp_ge (tgt := 51) hx hb dX9_sizeOf_16 (by decide) (fun hc3 => ?_) (fun hc3 => ?_)
      · rw [if_pos hc3] at hf
        refine lv_iload_n hx hb dX9_sizeOf_51 rfl (lv_at hl 2 rfl) ?_
        have e0 := Option.some.inj hf
        subst e0
        exact hret _ _ _ _ hP hS dX9_sizeOf_52
      · rw [if_neg hc3] at hf
        refine lv_iload_n hx hb dX9_sizeOf_19 rfl (lv_at hl 2 rfl) ?_
        refine lv_if_eq (tgt := 45) hx hb dX9_sizeOf_20 (by decide) (fun hc4 => ?_) (fun hc4 => ?_)
        · rw [if_pos hc4] at hf
          refine lv_iinc (v := x2 + (1 : Int32)) (lv' := [(2, .int (x2 + (1 : Int32))), (0, .ref (ad 0)), (1, .int x1), (3, .int x3)]) hx hb dX9_sizeOf_45 hl (k := 2) rfl rfl (by decide) rfl (fun ls hl => ?_)
          refine lv_goto (tgt := 9) hx hb dX9_sizeOf_48 (by decide) ?_
          exact ih9 _ _ x1 (x2 + (1 : Int32)) x3 ls hP hS (lv_sub hl [1, 2, 0, 3] rfl) hf
        · rw [if_neg hc4] at hf
          refine lv_aload_n hx hb dX9_sizeOf_23 rfl (lv_at hl 0 rfl) ?_
          refine va_get (ci := 7) (v := .ref (ad 8)) hx hb ht i_X9 hown hX.1 hP 0 mw_obj rfl 9 (by decide) (ht _ kFL_RX9_32) (fun _ h9 => h9) rfl dX9_sizeOf_24 ?_
          refine lv_aload_n hx hb dX9_sizeOf_27 rfl (lv_at hl 0 rfl) ?_
          refine va_get (ci := 7) (v := .ref (ad 6)) hx hb ht i_X9 hown hX.1 hP 0 mw_obj rfl 7 (by decide) (ht _ kFL_RX9_26) (fun _ h9 => h9) rfl dX9_sizeOf_28 ?_
          refine lv_iload_n hx hb dX9_sizeOf_31 rfl (lv_at hl 3 rfl) ?_
          refine lv_iload_n hx hb dX9_sizeOf_32 rfl (lv_at hl 2 rfl) ?_
          refine lv_iadd hx hb dX9_sizeOf_33 ?_
          obtain ⟨hn5, hf⟩ := ngE _ hf
          refine va_iald hx hb hX.1 hP 6 0 mw_order rfl hn5 dX9_sizeOf_34 ?_
          obtain ⟨hn6, hf⟩ := ngE _ hf
          refine va_iald hx hb hX.1 hP 8 0 mw_above rfl hn6 dX9_sizeOf_35 ?_
          refine lv_aload_n hx hb dX9_sizeOf_36 rfl (lv_at hl 0 rfl) ?_
          refine va_get (ci := 7) (v := .ref (ad 8)) hx hb ht i_X9 hown hX.1 hP 0 mw_obj rfl 9 (by decide) (ht _ kFL_RX9_32) (fun _ h9 => h9) rfl dX9_sizeOf_37 ?_
          refine lv_iload_n hx hb dX9_sizeOf_40 rfl (lv_at hl 1 rfl) ?_
          obtain ⟨hn7, hf⟩ := ngE _ hf
          refine va_iald hx hb hX.1 hP 8 0 mw_above rfl hn7 dX9_sizeOf_41 ?_
          refine lv_icmp_le (tgt := 51) hx hb dX9_sizeOf_42 (by decide) (fun hc8 => ?_) (fun hc8 => ?_)
          · rw [if_pos hc8] at hf
            refine lv_iload_n hx hb dX9_sizeOf_51 rfl (lv_at hl 2 rfl) ?_
            have e0 := Option.some.inj hf
            subst e0
            exact hret _ _ _ _ hP hS dX9_sizeOf_52
          · rw [if_neg hc8] at hf
            refine lv_iinc (v := x2 + (1 : Int32)) (lv' := [(2, .int (x2 + (1 : Int32))), (0, .ref (ad 0)), (1, .int x1), (3, .int x3)]) hx hb dX9_sizeOf_45 hl (k := 2) rfl rfl (by decide) rfl (fun ls hl => ?_)
            refine lv_goto (tgt := 9) hx hb dX9_sizeOf_48 (by decide) ?_
            exact ih9 _ _ x1 (x2 + (1 : Int32)) x3 ls hP hS (lv_sub hl [1, 2, 0, 3] rfl) hf
  unfold fX9_sizeOf at hf
  refine lv_iconst (v := (0 : Int32)) hx hb dX9_sizeOf_0 (by decide) ?_
  refine lv_istore_n (lv' := [(2, .int ((0 : Int32))), (0, .ref (ad 0)), (1, .int x1)]) hx hb dX9_sizeOf_1 rfl hl (by decide) rfl (fun ls hl => ?_)
  refine lv_aload_n hx hb dX9_sizeOf_2 rfl (lv_at hl 1 rfl) ?_
  refine va_get (ci := 7) (v := .ref (ad 7)) hx hb ht i_X9 hown hX.1 hP 0 mw_obj rfl 8 (by decide) (ht _ kFL_RX9_29) (fun _ h9 => h9) rfl dX9_sizeOf_3 ?_
  refine lv_iload_n hx hb dX9_sizeOf_6 rfl (lv_at hl 2 rfl) ?_
  obtain ⟨hn1, hf⟩ := ngE _ hf
  refine va_iald hx hb hX.1 hP 7 0 mw_numof rfl hn1 dX9_sizeOf_7 ?_
  refine lv_istore_n (lv' := [(3, .int (numof x1.toNatClampNeg)), (2, .int ((0 : Int32))), (0, .ref (ad 0)), (1, .int x1)]) hx hb dX9_sizeOf_8 rfl hl (by decide) rfl (fun ls hl => ?_)
  exact blk9 F _ _ x1 (0 : Int32) (numof x1.toNatClampNeg) ls hP hS (lv_sub hl [2, 3, 1, 0] rfl) hf
def fX9_depth_8 (F : Nat) (now : Nat → Int32) : Nat → (Nat → Int32) → (Nat → Int32) → (Nat → Int32) → (Nat → Int32) → Int32 → Int32 → Option (Int32 × (Nat → Int32) × (Nat → Int32) × (Nat → Int32) × (Nat → Int32))
  | 0, _, _, _, _, _, _ => none
  | n + 1, order, numof, above, pile, x1, x2 => (fX9_many F now).bind fun q2 => (if q2 ≤ x2 then (some (x1, order, numof, above, pile)) else (if x2 < 0 ∨ 60 ≤ x2.toNatClampNeg then none else (if (order x2.toNatClampNeg) < 0 ∨ 60 ≤ (order x2.toNatClampNeg).toNatClampNeg then none else (if ((above (order x2.toNatClampNeg).toNatClampNeg) + (1 : Int32)) ≤ x1 then (fX9_depth_8 F now n order numof above pile x1 (x2 + (1 : Int32))) else (if x2 < 0 ∨ 60 ≤ x2.toNatClampNeg then none else (if (order x2.toNatClampNeg) < 0 ∨ 60 ≤ (order x2.toNatClampNeg).toNatClampNeg then none else (fX9_depth_8 F now n order numof above pile ((above (order x2.toNatClampNeg).toNatClampNeg) + (1 : Int32)) (x2 + (1 : Int32)))))))))
def fX9_depth (F : Nat) (now : Nat → Int32) (order : Nat → Int32) (numof : Nat → Int32) (above : Nat → Int32) (pile : Nat → Int32) : Option (Int32 × (Nat → Int32) × (Nat → Int32) × (Nat → Int32) × (Nat → Int32)) := (fX9_numbers F now order numof above pile).bind fun q1 => (fX9_depth_8 F now F q1.1 q1.2.1 q1.2.2.1 q1.2.2.2 (0 : Int32) (0 : Int32))
abbrev rX9_depth : Room := { frames := 3, cells := 0, slots := 0, locals := 69 }
theorem wX9_depth : kV yX9_depth cX9_depth 3 (some .int) 0 := ⟨kCO_yX9_depth, kIM_yX9_depth, kSE_yX9_depth, kIN_RX9, by decide +kernel, by decide +kernel, by decide +kernel⟩
set_option maxHeartbeats 4000000 in
set_option maxRecDepth 100000 in
theorem tX9_depth {l : Launch} {D : va_G} {cI cZ : ClassId} {ad : Nat → Nat} (hD : gInj 15 ad) {F : Nat} {un sd : Int32} {now past images iseed kept order numof above pile aside fewest deep keys worths : Nat → Int32} {res : Int32 × (Nat → Int32) × (Nat → Int32) × (Nat → Int32) × (Nat → Int32)} (hf : fX9_depth F now order numof above pile = some res) : CTi l yX9_depth cX9_depth 3 .int rX9_depth D (mTy cI cZ) (gA 15 ad) [.ref (ad 0)] (mw cI cZ ad un sd now past images iseed kept order numof above pile aside fewest deep keys worths) res.1 (mw cI cZ ad un sd now past images iseed kept res.2.1 res.2.2.1 res.2.2.2.1 res.2.2.2.2 aside fewest deep keys worths) := by
  refine ct_int (by decide) (Nat.le_of_ble_eq_true rfl) ?_
  intro p e s m args below meth c Q ls hx hb hml hown ht hX hret hP hS hl
  have hl : lv_has ls 3 [(0, .ref (ad 0))] := hl
  have blk8 : ∀ (n8 : Nat) (H : Heap) (locs : List Loc) (order : Nat → Int32) (numof : Nat → Int32) (above : Nat → Int32) (pile : Nat → Int32) (x1 : Int32) (x2 : Int32) (ls : Array Slot), va_P D vwCl (mw cI cZ ad un sd now past images iseed kept order numof above pile aside fewest deep keys worths) H → va_S (gA 15 ad) s.heap H locs → lv_has ls 3 [(0, .ref (ad 0)), (1, .int x1), (2, .int x2)] → fX9_depth_8 F now n8 order numof above pile x1 x2 = some res → W p l e rX9_depth s m args below meth c H locs 0 0 Q (F0 m 8 ls []) := by
    intro n8
    induction n8 with
    | zero =>
      intro H locs order numof above pile x1 x2 ls hP hS hl hf
      rw [fX9_depth_8] at hf
      cases hf
    | succ n8 ih8 =>
      skip
      intro H locs order numof above pile x1 x2 ls hP hS hl hf
      rw [fX9_depth_8] at hf
      refine lv_iload_n hx hb dX9_depth_8 rfl (lv_at hl 2 rfl) ?_
      refine lv_aload_n hx hb dX9_depth_9 rfl (lv_at hl 0 rfl) ?_
      obtain ⟨q2, hq2, hf⟩ := obE hf
      refine ct_cVi (rest := [.int x2]) (tX9_many hD hq2) hx hb hml hown ht hX hP hS wX9_many kML_RX9_128 rfl rfl ⟨Nat.le_of_ble_eq_true rfl, Nat.le_of_ble_eq_true rfl⟩ (va_recv hX.1 hP rfl mw_obj) rfl hl.1 rfl (Nat.le_of_ble_eq_true rfl) dX9_depth_10 (fun H locs hP hS => ?_)
      refine lv_icmp_ge (tgt := 57) hx hb dX9_depth_13 (by decide) (fun hc3 => ?_) (fun hc3 => ?_)
      · rw [if_pos hc3] at hf
        refine lv_iload_n hx hb dX9_depth_57 rfl (lv_at hl 1 rfl) ?_
        have e0 := Option.some.inj hf
        subst e0
        exact hret _ _ _ _ hP hS dX9_depth_58
      · rw [if_neg hc3] at hf
        refine lv_aload_n hx hb dX9_depth_16 rfl (lv_at hl 0 rfl) ?_
        refine va_get (ci := 7) (v := .ref (ad 8)) hx hb ht i_X9 hown hX.1 hP 0 mw_obj rfl 9 (by decide) (ht _ kFL_RX9_32) (fun _ h9 => h9) rfl dX9_depth_17 ?_
        refine lv_aload_n hx hb dX9_depth_20 rfl (lv_at hl 0 rfl) ?_
        refine va_get (ci := 7) (v := .ref (ad 6)) hx hb ht i_X9 hown hX.1 hP 0 mw_obj rfl 7 (by decide) (ht _ kFL_RX9_26) (fun _ h9 => h9) rfl dX9_depth_21 ?_
        refine lv_iload_n hx hb dX9_depth_24 rfl (lv_at hl 2 rfl) ?_
        obtain ⟨hn4, hf⟩ := ngE _ hf
        refine va_iald hx hb hX.1 hP 6 0 mw_order rfl hn4 dX9_depth_25 ?_
        obtain ⟨hn5, hf⟩ := ngE _ hf
        refine va_iald hx hb hX.1 hP 8 0 mw_above rfl hn5 dX9_depth_26 ?_
        refine lv_iconst (v := (1 : Int32)) hx hb dX9_depth_27 (by decide) ?_
        refine lv_iadd hx hb dX9_depth_28 ?_
        refine lv_iload_n hx hb dX9_depth_29 rfl (lv_at hl 1 rfl) ?_
        refine lv_icmp_le (tgt := 49) hx hb dX9_depth_30 (by decide) (fun hc6 => ?_) (fun hc6 => ?_)
        · rw [if_pos hc6] at hf
          refine lv_iload_n hx hb dX9_depth_49 rfl (lv_at hl 1 rfl) ?_
          refine lv_istore_n (lv' := [(1, .int x1), (0, .ref (ad 0)), (2, .int x2)]) hx hb dX9_depth_50 rfl hl (by decide) rfl (fun ls hl => ?_)
          refine lv_iinc (v := x2 + (1 : Int32)) (lv' := [(2, .int (x2 + (1 : Int32))), (1, .int x1), (0, .ref (ad 0))]) hx hb dX9_depth_51 hl (k := 2) rfl rfl (by decide) rfl (fun ls hl => ?_)
          refine lv_goto (tgt := 8) hx hb dX9_depth_54 (by decide) ?_
          exact ih8 _ _ order numof above pile x1 (x2 + (1 : Int32)) ls hP hS (lv_sub hl [2, 1, 0] rfl) hf
        · rw [if_neg hc6] at hf
          refine lv_aload_n hx hb dX9_depth_33 rfl (lv_at hl 0 rfl) ?_
          refine va_get (ci := 7) (v := .ref (ad 8)) hx hb ht i_X9 hown hX.1 hP 0 mw_obj rfl 9 (by decide) (ht _ kFL_RX9_32) (fun _ h9 => h9) rfl dX9_depth_34 ?_
          refine lv_aload_n hx hb dX9_depth_37 rfl (lv_at hl 0 rfl) ?_
          refine va_get (ci := 7) (v := .ref (ad 6)) hx hb ht i_X9 hown hX.1 hP 0 mw_obj rfl 7 (by decide) (ht _ kFL_RX9_26) (fun _ h9 => h9) rfl dX9_depth_38 ?_
          refine lv_iload_n hx hb dX9_depth_41 rfl (lv_at hl 2 rfl) ?_
          obtain ⟨hn7, hf⟩ := ngE _ hf
          refine va_iald hx hb hX.1 hP 6 0 mw_order rfl hn7 dX9_depth_42 ?_
          obtain ⟨hn8, hf⟩ := ngE _ hf
          refine va_iald hx hb hX.1 hP 8 0 mw_above rfl hn8 dX9_depth_43 ?_
          refine lv_iconst (v := (1 : Int32)) hx hb dX9_depth_44 (by decide) ?_
          refine lv_iadd hx hb dX9_depth_45 ?_
          refine lv_goto (tgt := 50) hx hb dX9_depth_46 (by decide) ?_
          refine lv_istore_n (lv' := [(1, .int ((above (order x2.toNatClampNeg).toNatClampNeg) + (1 : Int32))), (0, .ref (ad 0)), (2, .int x2)]) hx hb dX9_depth_50 rfl hl (by decide) rfl (fun ls hl => ?_)
          refine lv_iinc (v := x2 + (1 : Int32)) (lv' := [(2, .int (x2 + (1 : Int32))), (1, .int ((above (order x2.toNatClampNeg).toNatClampNeg) + (1 : Int32))), (0, .ref (ad 0))]) hx hb dX9_depth_51 hl (k := 2) rfl rfl (by decide) rfl (fun ls hl => ?_)
          refine lv_goto (tgt := 8) hx hb dX9_depth_54 (by decide) ?_
          exact ih8 _ _ order numof above pile ((above (order x2.toNatClampNeg).toNatClampNeg) + (1 : Int32)) (x2 + (1 : Int32)) ls hP hS (lv_sub hl [2, 1, 0] rfl) hf
  unfold fX9_depth at hf
  refine lv_iconst (v := (0 : Int32)) hx hb dX9_depth_0 (by decide) ?_
  refine lv_istore_n (lv' := [(1, .int ((0 : Int32))), (0, .ref (ad 0))]) hx hb dX9_depth_1 rfl hl (by decide) rfl (fun ls hl => ?_)
  refine lv_aload_n hx hb dX9_depth_2 rfl (lv_at hl 1 rfl) ?_
  obtain ⟨q1, hq1, hf⟩ := obE hf
  refine ct_cVv (rest := []) (tX9_numbers hD hq1) hx hb hml hown ht hX hP hS wX9_numbers kML_RX9_131 rfl rfl ⟨Nat.le_of_ble_eq_true rfl, Nat.le_of_ble_eq_true rfl⟩ (va_recv hX.1 hP rfl mw_obj) rfl hl.1 rfl (Nat.le_of_ble_eq_true rfl) dX9_depth_3 (fun H locs hP hS => ?_)
  refine lv_iconst (v := (0 : Int32)) hx hb dX9_depth_6 (by decide) ?_
  refine lv_istore_n (lv' := [(2, .int ((0 : Int32))), (1, .int ((0 : Int32))), (0, .ref (ad 0))]) hx hb dX9_depth_7 rfl hl (by decide) rfl (fun ls hl => ?_)
  exact blk8 F _ _ q1.1 q1.2.1 q1.2.2.1 q1.2.2.2 (0 : Int32) (0 : Int32) ls hP hS (lv_sub hl [2, 1, 0] rfl) hf
def fX9_lessThan_35 (F : Nat) (now : Nat → Int32) (k4 : Int32 → Int32 → Int32 → Option (Int32)) (x1 : Int32) (x3 : Int32) (y0 : Int32) : Option (Int32) := k4 x1 (y0 + (0 : Int32)) (x3 + (1 : Int32))
def fX9_lessThan_4 (F : Nat) (now : Nat → Int32) : Nat → Int32 → Int32 → Int32 → Option (Int32)
  | 0, _, _, _ => none
  | n + 1, x1, x2, x3 => if (60 : Int32) ≤ x3 then (some x2) else ((fX9_of F now x3 (0 : Int32)).bind fun q2 => (if q2 = (-1 : Int32) then (fX9_lessThan_35 F now (fun x1 x2 x3 => fX9_lessThan_4 F now n x1 x2 x3) x1 x3 x2) else ((fX9_of F now x3 (0 : Int32)).bind fun q4 => (if x1 ≤ q4 then (fX9_lessThan_35 F now (fun x1 x2 x3 => fX9_lessThan_4 F now n x1 x2 x3) x1 x3 x2) else (fX9_lessThan_4 F now n x1 (x2 + (1 : Int32)) (x3 + (1 : Int32)))))))
def fX9_lessThan (F : Nat) (now : Nat → Int32) (x1 : Int32) : Option (Int32) := fX9_lessThan_4 F now F x1 (0 : Int32) (0 : Int32)
abbrev rX9_lessThan : Room := { frames := 1, cells := 0, slots := 0, locals := 22 }
theorem wX9_lessThan : kV yX9_lessThan cX9_lessThan 4 (some .int) 1 := ⟨kCO_yX9_lessThan, kIM_yX9_lessThan, kSE_yX9_lessThan, kIN_RX9, by decide +kernel, by decide +kernel, by decide +kernel⟩
set_option maxHeartbeats 4000000 in
set_option maxRecDepth 100000 in
theorem tX9_lessThan {l : Launch} {D : va_G} {cI cZ : ClassId} {ad : Nat → Nat} (hD : gInj 15 ad) {F : Nat} {un sd : Int32} {now past images iseed kept order numof above pile aside fewest deep keys worths : Nat → Int32} {x1 : Int32} {res : Int32} (hf : fX9_lessThan F now x1 = some res) : CTi l yX9_lessThan cX9_lessThan 4 .int rX9_lessThan D (mTy cI cZ) (gA 15 ad) [.ref (ad 0), .int x1] (mw cI cZ ad un sd now past images iseed kept order numof above pile aside fewest deep keys worths) res (mw cI cZ ad un sd now past images iseed kept order numof above pile aside fewest deep keys worths) := by
  refine ct_int (by decide) (Nat.le_of_ble_eq_true rfl) ?_
  intro p e s m args below meth c Q ls hx hb hml hown ht hX hret hP hS hl
  have hl : lv_has ls 4 [(0, .ref (ad 0)), (1, .int x1)] := hl
  have blk4 : ∀ (n4 : Nat) (H : Heap) (locs : List Loc) (x1 : Int32) (x2 : Int32) (x3 : Int32) (ls : Array Slot), va_P D vwCl (mw cI cZ ad un sd now past images iseed kept order numof above pile aside fewest deep keys worths) H → va_S (gA 15 ad) s.heap H locs → lv_has ls 4 [(0, .ref (ad 0)), (1, .int x1), (2, .int x2), (3, .int x3)] → fX9_lessThan_4 F now n4 x1 x2 x3 = some res → W p l e rX9_lessThan s m args below meth c H locs 0 0 Q (F0 m 4 ls []) := by
    intro n4
    induction n4 with
    | zero =>
      intro H locs x1 x2 x3 ls hP hS hl hf
      rw [fX9_lessThan_4] at hf
      cases hf
    | succ n4 ih4 =>
      skip
      have blk35 : ∀ (H : Heap) (locs : List Loc) (x1 : Int32) (x3 : Int32) (y0 : Int32) (ls : Array Slot), va_P D vwCl (mw cI cZ ad un sd now past images iseed kept order numof above pile aside fewest deep keys worths) H → va_S (gA 15 ad) s.heap H locs → lv_has ls 4 [(0, .ref (ad 0)), (1, .int x1), (3, .int x3)] → fX9_lessThan_35 F now (fun x1 x2 x3 => fX9_lessThan_4 F now n4 x1 x2 x3) x1 x3 y0 = some res → W p l e rX9_lessThan s m args below meth c H locs 0 0 Q (F0 m 35 ls [.int y0]) := by
        intro H locs x1 x3 y0 ls hP hS hl hf
        unfold fX9_lessThan_35 at hf
        refine lv_iconst (v := (0 : Int32)) hx hb dX9_lessThan_35 (by decide) ?_
        refine lv_iadd hx hb dX9_lessThan_36 ?_
        refine lv_istore_n (lv' := [(2, .int (y0 + (0 : Int32))), (0, .ref (ad 0)), (1, .int x1), (3, .int x3)]) hx hb dX9_lessThan_37 rfl hl (by decide) rfl (fun ls hl => ?_)
        refine lv_iinc (v := x3 + (1 : Int32)) (lv' := [(3, .int (x3 + (1 : Int32))), (2, .int (y0 + (0 : Int32))), (0, .ref (ad 0)), (1, .int x1)]) hx hb dX9_lessThan_38 hl (k := 3) rfl rfl (by decide) rfl (fun ls hl => ?_)
        refine lv_goto (tgt := 4) hx hb dX9_lessThan_41 (by decide) ?_
        exact ih4 _ _ x1 (y0 + (0 : Int32)) (x3 + (1 : Int32)) ls hP hS (lv_sub hl [2, 3, 1, 0] rfl) hf
      intro H locs x1 x2 x3 ls hP hS hl hf
      rw [fX9_lessThan_4] at hf
      refine lv_iload_n hx hb dX9_lessThan_4 rfl (lv_at hl 3 rfl) ?_
      refine lv_bipush (v := (60 : Int32)) hx hb dX9_lessThan_5 (by decide) ?_
      refine lv_icmp_ge (tgt := 44) hx hb dX9_lessThan_7 (by decide) (fun hc1 => ?_) (fun hc1 => ?_)
      · rw [if_pos hc1] at hf
        refine lv_iload_n hx hb dX9_lessThan_44 rfl (lv_at hl 2 rfl) ?_
        have e0 := Option.some.inj hf
        subst e0
        exact hret _ _ _ _ hP hS dX9_lessThan_45
      · rw [if_neg hc1] at hf
        refine lv_iload_n hx hb dX9_lessThan_10 rfl (lv_at hl 2 rfl) ?_
        refine lv_aload_n hx hb dX9_lessThan_11 rfl (lv_at hl 0 rfl) ?_
        refine lv_iload_n hx hb dX9_lessThan_12 rfl (lv_at hl 3 rfl) ?_
        refine lv_iconst (v := (0 : Int32)) hx hb dX9_lessThan_13 (by decide) ?_
        obtain ⟨q2, hq2, hf⟩ := obE hf
        refine ct_cVi (rest := [.int x2]) (tX9_of hD hq2) hx hb hml hown ht hX hP hS wX9_of kML_RX9_63 rfl rfl ⟨Nat.le_of_ble_eq_true rfl, Nat.le_of_ble_eq_true rfl⟩ (va_recv hX.1 hP rfl mw_obj) rfl hl.1 rfl (Nat.le_of_ble_eq_true rfl) dX9_lessThan_14 (fun H locs hP hS => ?_)
        refine lv_iconst (v := (-1 : Int32)) hx hb dX9_lessThan_17 (by decide) ?_
        refine lv_icmp_eq (tgt := 35) hx hb dX9_lessThan_18 (by decide) (fun hc3 => ?_) (fun hc3 => ?_)
        · rw [if_pos hc3] at hf
          exact blk35 _ _ x1 x3 x2 ls hP hS (lv_sub hl [0, 1, 3] rfl) hf
        · rw [if_neg hc3] at hf
          refine lv_aload_n hx hb dX9_lessThan_21 rfl (lv_at hl 0 rfl) ?_
          refine lv_iload_n hx hb dX9_lessThan_22 rfl (lv_at hl 3 rfl) ?_
          refine lv_iconst (v := (0 : Int32)) hx hb dX9_lessThan_23 (by decide) ?_
          obtain ⟨q4, hq4, hf⟩ := obE hf
          refine ct_cVi (rest := [.int x2]) (tX9_of hD hq4) hx hb hml hown ht hX hP hS wX9_of kML_RX9_63 rfl rfl ⟨Nat.le_of_ble_eq_true rfl, Nat.le_of_ble_eq_true rfl⟩ (va_recv hX.1 hP rfl mw_obj) rfl hl.1 rfl (Nat.le_of_ble_eq_true rfl) dX9_lessThan_24 (fun H locs hP hS => ?_)
          refine lv_iload_n hx hb dX9_lessThan_27 rfl (lv_at hl 1 rfl) ?_
          refine lv_icmp_ge (tgt := 35) hx hb dX9_lessThan_28 (by decide) (fun hc5 => ?_) (fun hc5 => ?_)
          · rw [if_pos hc5] at hf
            exact blk35 _ _ x1 x3 x2 ls hP hS (lv_sub hl [0, 1, 3] rfl) hf
          · rw [if_neg hc5] at hf
            refine lv_iconst (v := (1 : Int32)) hx hb dX9_lessThan_31 (by decide) ?_
            refine lv_goto (tgt := 36) hx hb dX9_lessThan_32 (by decide) ?_
            refine lv_iadd hx hb dX9_lessThan_36 ?_
            refine lv_istore_n (lv' := [(2, .int (x2 + (1 : Int32))), (0, .ref (ad 0)), (1, .int x1), (3, .int x3)]) hx hb dX9_lessThan_37 rfl hl (by decide) rfl (fun ls hl => ?_)
            refine lv_iinc (v := x3 + (1 : Int32)) (lv' := [(3, .int (x3 + (1 : Int32))), (2, .int (x2 + (1 : Int32))), (0, .ref (ad 0)), (1, .int x1)]) hx hb dX9_lessThan_38 hl (k := 3) rfl rfl (by decide) rfl (fun ls hl => ?_)
            refine lv_goto (tgt := 4) hx hb dX9_lessThan_41 (by decide) ?_
            exact ih4 _ _ x1 (x2 + (1 : Int32)) (x3 + (1 : Int32)) ls hP hS (lv_sub hl [2, 3, 1, 0] rfl) hf
  unfold fX9_lessThan at hf
  refine lv_iconst (v := (0 : Int32)) hx hb dX9_lessThan_0 (by decide) ?_
  refine lv_istore_n (lv' := [(2, .int ((0 : Int32))), (0, .ref (ad 0)), (1, .int x1)]) hx hb dX9_lessThan_1 rfl hl (by decide) rfl (fun ls hl => ?_)
  refine lv_iconst (v := (0 : Int32)) hx hb dX9_lessThan_2 (by decide) ?_
  refine lv_istore_n (lv' := [(3, .int ((0 : Int32))), (2, .int ((0 : Int32))), (0, .ref (ad 0)), (1, .int x1)]) hx hb dX9_lessThan_3 rfl hl (by decide) rfl (fun ls hl => ?_)
  exact blk4 F _ _ x1 (0 : Int32) (0 : Int32) ls hP hS (lv_sub hl [2, 3, 1, 0] rfl) hf
def fX9_besideOf_87 (F : Nat) (now : Nat → Int32) (k5 : Int32 → Int32 → Int32 → Int32 → Option (Int32)) (x1 : Int32) (x2 : Int32) (x3 : Int32) (x4 : Int32) (x5 : Int32) (y0 : Int32) : Option (Int32) := if y0 = 0 then (k5 x1 x2 x3 (x4 + (1 : Int32))) else (k5 x1 x2 x5 (x4 + (1 : Int32)))
def fX9_besideOf_86 (F : Nat) (now : Nat → Int32) (k5 : Int32 → Int32 → Int32 → Int32 → Option (Int32)) (x1 : Int32) (x2 : Int32) (x3 : Int32) (x4 : Int32) (x5 : Int32) : Option (Int32) := fX9_besideOf_87 F now k5 x1 x2 x3 x4 x5 (0 : Int32)
def fX9_besideOf_82 (F : Nat) (now : Nat → Int32) (k5 : Int32 → Int32 → Int32 → Int32 → Option (Int32)) (x1 : Int32) (x2 : Int32) (x3 : Int32) (x4 : Int32) (x5 : Int32) : Option (Int32) := fX9_besideOf_87 F now k5 x1 x2 x3 x4 x5 (1 : Int32)
def fX9_besideOf_51 (F : Nat) (now : Nat → Int32) (k5 : Int32 → Int32 → Int32 → Int32 → Option (Int32)) (x1 : Int32) (x2 : Int32) (x3 : Int32) (x4 : Int32) (x5 : Int32) (y0 : Int32) : Option (Int32) := if y0 = 0 then (fX9_besideOf_86 F now k5 x1 x2 x3 x4 x5) else (if x3 = (-1 : Int32) then (fX9_besideOf_82 F now k5 x1 x2 x3 x4 x5) else (if x2 = 0 then (if x3 ≤ x5 then (fX9_besideOf_86 F now k5 x1 x2 x3 x4 x5) else (fX9_besideOf_82 F now k5 x1 x2 x3 x4 x5)) else (if x5 ≤ x3 then (fX9_besideOf_86 F now k5 x1 x2 x3 x4 x5) else (fX9_besideOf_82 F now k5 x1 x2 x3 x4 x5))))
def fX9_besideOf_50 (F : Nat) (now : Nat → Int32) (k5 : Int32 → Int32 → Int32 → Int32 → Option (Int32)) (x1 : Int32) (x2 : Int32) (x3 : Int32) (x4 : Int32) (x5 : Int32) : Option (Int32) := fX9_besideOf_51 F now k5 x1 x2 x3 x4 x5 (0 : Int32)
def fX9_besideOf_46 (F : Nat) (now : Nat → Int32) (k5 : Int32 → Int32 → Int32 → Int32 → Option (Int32)) (x1 : Int32) (x2 : Int32) (x3 : Int32) (x4 : Int32) (x5 : Int32) : Option (Int32) := fX9_besideOf_51 F now k5 x1 x2 x3 x4 x5 (1 : Int32)
def fX9_besideOf_5 (F : Nat) (now : Nat → Int32) : Nat → Int32 → Int32 → Int32 → Int32 → Option (Int32)
  | 0, _, _, _, _ => none
  | n + 1, x1, x2, x3, x4 => if (60 : Int32) ≤ x4 then (some x3) else ((fX9_of F now x4 (0 : Int32)).bind fun q2 => (if q2 = (-1 : Int32) then (fX9_besideOf_50 F now (fun x1 x2 x3 x4 => fX9_besideOf_5 F now n x1 x2 x3 x4) x1 x2 x3 x4 q2) else (if x2 = 0 then (if q2 ≤ x1 then (fX9_besideOf_50 F now (fun x1 x2 x3 x4 => fX9_besideOf_5 F now n x1 x2 x3 x4) x1 x2 x3 x4 q2) else (fX9_besideOf_46 F now (fun x1 x2 x3 x4 => fX9_besideOf_5 F now n x1 x2 x3 x4) x1 x2 x3 x4 q2)) else (if x1 ≤ q2 then (fX9_besideOf_50 F now (fun x1 x2 x3 x4 => fX9_besideOf_5 F now n x1 x2 x3 x4) x1 x2 x3 x4 q2) else (fX9_besideOf_46 F now (fun x1 x2 x3 x4 => fX9_besideOf_5 F now n x1 x2 x3 x4) x1 x2 x3 x4 q2)))))
def fX9_besideOf (F : Nat) (now : Nat → Int32) (x1 : Int32) (x2 : Int32) : Option (Int32) := fX9_besideOf_5 F now F x1 x2 (-1 : Int32) (0 : Int32)
abbrev rX9_besideOf : Room := { frames := 1, cells := 0, slots := 0, locals := 22 }
theorem wX9_besideOf : kV yX9_besideOf cX9_besideOf 8 (some .int) 2 := ⟨kCO_yX9_besideOf, kIM_yX9_besideOf, kSE_yX9_besideOf, kIN_RX9, by decide +kernel, by decide +kernel, by decide +kernel⟩
set_option maxHeartbeats 4000000 in
set_option maxRecDepth 100000 in
theorem tX9_besideOf {l : Launch} {D : va_G} {cI cZ : ClassId} {ad : Nat → Nat} (hD : gInj 15 ad) {F : Nat} {un sd : Int32} {now past images iseed kept order numof above pile aside fewest deep keys worths : Nat → Int32} {x1 : Int32} {x2 : Int32} {res : Int32} (hf : fX9_besideOf F now x1 x2 = some res) : CTi l yX9_besideOf cX9_besideOf 8 .int rX9_besideOf D (mTy cI cZ) (gA 15 ad) [.ref (ad 0), .int x1, .int x2] (mw cI cZ ad un sd now past images iseed kept order numof above pile aside fewest deep keys worths) res (mw cI cZ ad un sd now past images iseed kept order numof above pile aside fewest deep keys worths) := by
  refine ct_int (by decide) (Nat.le_of_ble_eq_true rfl) ?_
  intro p e s m args below meth c Q ls hx hb hml hown ht hX hret hP hS hl
  have hl : lv_has ls 8 [(0, .ref (ad 0)), (1, .int x1), (2, .int x2)] := hl
  have blk5 : ∀ (n5 : Nat) (H : Heap) (locs : List Loc) (x1 : Int32) (x2 : Int32) (x3 : Int32) (x4 : Int32) (ls : Array Slot), va_P D vwCl (mw cI cZ ad un sd now past images iseed kept order numof above pile aside fewest deep keys worths) H → va_S (gA 15 ad) s.heap H locs → lv_has ls 8 [(0, .ref (ad 0)), (1, .int x1), (2, .int x2), (3, .int x3), (4, .int x4)] → fX9_besideOf_5 F now n5 x1 x2 x3 x4 = some res → W p l e rX9_besideOf s m args below meth c H locs 0 0 Q (F0 m 5 ls []) := by
    intro n5
    induction n5 with
    | zero =>
      intro H locs x1 x2 x3 x4 ls hP hS hl hf
      rw [fX9_besideOf_5] at hf
      cases hf
    | succ n5 ih5 =>
      skip
      have blk87 : ∀ (H : Heap) (locs : List Loc) (x1 : Int32) (x2 : Int32) (x3 : Int32) (x4 : Int32) (x5 : Int32) (y0 : Int32) (ls : Array Slot), va_P D vwCl (mw cI cZ ad un sd now past images iseed kept order numof above pile aside fewest deep keys worths) H → va_S (gA 15 ad) s.heap H locs → lv_has ls 8 [(0, .ref (ad 0)), (1, .int x1), (2, .int x2), (3, .int x3), (4, .int x4), (5, .int x5)] → fX9_besideOf_87 F now (fun x1 x2 x3 x4 => fX9_besideOf_5 F now n5 x1 x2 x3 x4) x1 x2 x3 x4 x5 y0 = some res → W p l e rX9_besideOf s m args below meth c H locs 0 0 Q (F0 m 87 ls [.int y0]) := by
        intro H locs x1 x2 x3 x4 x5 y0 ls hP hS hl hf
        unfold fX9_besideOf_87 at hf
        refine lv_istore (lv' := [(7, .int y0), (0, .ref (ad 0)), (1, .int x1), (2, .int x2), (3, .int x3), (4, .int x4), (5, .int x5)]) hx hb dX9_besideOf_87 hl (by decide) rfl (fun ls hl => ?_)
        refine lv_iload hx hb dX9_besideOf_89 (lv_at hl 0 rfl) ?_
        refine lv_if_eq (tgt := 99) hx hb dX9_besideOf_91 (by decide) (fun hc12 => ?_) (fun hc12 => ?_)
        · rw [if_pos hc12] at hf
          refine lv_iload_n hx hb dX9_besideOf_99 rfl (lv_at hl 4 rfl) ?_
          refine lv_istore_n (lv' := [(3, .int x3), (7, .int y0), (0, .ref (ad 0)), (1, .int x1), (2, .int x2), (4, .int x4), (5, .int x5)]) hx hb dX9_besideOf_100 rfl hl (by decide) rfl (fun ls hl => ?_)
          refine lv_iinc (v := x4 + (1 : Int32)) (lv' := [(4, .int (x4 + (1 : Int32))), (3, .int x3), (7, .int y0), (0, .ref (ad 0)), (1, .int x1), (2, .int x2), (5, .int x5)]) hx hb dX9_besideOf_101 hl (k := 5) rfl rfl (by decide) rfl (fun ls hl => ?_)
          refine lv_goto (tgt := 5) hx hb dX9_besideOf_104 (by decide) ?_
          exact ih5 _ _ x1 x2 x3 (x4 + (1 : Int32)) ls hP hS (lv_sub hl [3, 4, 5, 1, 0] rfl) hf
        · rw [if_neg hc12] at hf
          refine lv_iload hx hb dX9_besideOf_94 (lv_at hl 6 rfl) ?_
          refine lv_goto (tgt := 100) hx hb dX9_besideOf_96 (by decide) ?_
          refine lv_istore_n (lv' := [(3, .int x5), (7, .int y0), (0, .ref (ad 0)), (1, .int x1), (2, .int x2), (4, .int x4), (5, .int x5)]) hx hb dX9_besideOf_100 rfl hl (by decide) rfl (fun ls hl => ?_)
          refine lv_iinc (v := x4 + (1 : Int32)) (lv' := [(4, .int (x4 + (1 : Int32))), (3, .int x5), (7, .int y0), (0, .ref (ad 0)), (1, .int x1), (2, .int x2), (5, .int x5)]) hx hb dX9_besideOf_101 hl (k := 5) rfl rfl (by decide) rfl (fun ls hl => ?_)
          refine lv_goto (tgt := 5) hx hb dX9_besideOf_104 (by decide) ?_
          exact ih5 _ _ x1 x2 x5 (x4 + (1 : Int32)) ls hP hS (lv_sub hl [3, 4, 5, 1, 0] rfl) hf
      have blk86 : ∀ (H : Heap) (locs : List Loc) (x1 : Int32) (x2 : Int32) (x3 : Int32) (x4 : Int32) (x5 : Int32) (ls : Array Slot), va_P D vwCl (mw cI cZ ad un sd now past images iseed kept order numof above pile aside fewest deep keys worths) H → va_S (gA 15 ad) s.heap H locs → lv_has ls 8 [(0, .ref (ad 0)), (1, .int x1), (2, .int x2), (3, .int x3), (4, .int x4), (5, .int x5)] → fX9_besideOf_86 F now (fun x1 x2 x3 x4 => fX9_besideOf_5 F now n5 x1 x2 x3 x4) x1 x2 x3 x4 x5 = some res → W p l e rX9_besideOf s m args below meth c H locs 0 0 Q (F0 m 86 ls []) := by
        intro H locs x1 x2 x3 x4 x5 ls hP hS hl hf
        unfold fX9_besideOf_86 at hf
        refine lv_iconst (v := (0 : Int32)) hx hb dX9_besideOf_86 (by decide) ?_
        exact blk87 _ _ x1 x2 x3 x4 x5 (0 : Int32) ls hP hS (lv_sub hl [0, 1, 2, 3, 4, 5] rfl) hf
      have blk82 : ∀ (H : Heap) (locs : List Loc) (x1 : Int32) (x2 : Int32) (x3 : Int32) (x4 : Int32) (x5 : Int32) (ls : Array Slot), va_P D vwCl (mw cI cZ ad un sd now past images iseed kept order numof above pile aside fewest deep keys worths) H → va_S (gA 15 ad) s.heap H locs → lv_has ls 8 [(0, .ref (ad 0)), (1, .int x1), (2, .int x2), (3, .int x3), (4, .int x4), (5, .int x5)] → fX9_besideOf_82 F now (fun x1 x2 x3 x4 => fX9_besideOf_5 F now n5 x1 x2 x3 x4) x1 x2 x3 x4 x5 = some res → W p l e rX9_besideOf s m args below meth c H locs 0 0 Q (F0 m 82 ls []) := by
        intro H locs x1 x2 x3 x4 x5 ls hP hS hl hf
        unfold fX9_besideOf_82 at hf
        refine lv_iconst (v := (1 : Int32)) hx hb dX9_besideOf_82 (by decide) ?_
        refine lv_goto (tgt := 87) hx hb dX9_besideOf_83 (by decide) ?_
        exact blk87 _ _ x1 x2 x3 x4 x5 (1 : Int32) ls hP hS (lv_sub hl [0, 1, 2, 3, 4, 5] rfl) hf
      have blk51 : ∀ (H : Heap) (locs : List Loc) (x1 : Int32) (x2 : Int32) (x3 : Int32) (x4 : Int32) (x5 : Int32) (y0 : Int32) (ls : Array Slot), va_P D vwCl (mw cI cZ ad un sd now past images iseed kept order numof above pile aside fewest deep keys worths) H → va_S (gA 15 ad) s.heap H locs → lv_has ls 8 [(0, .ref (ad 0)), (1, .int x1), (2, .int x2), (3, .int x3), (4, .int x4), (5, .int x5)] → fX9_besideOf_51 F now (fun x1 x2 x3 x4 => fX9_besideOf_5 F now n5 x1 x2 x3 x4) x1 x2 x3 x4 x5 y0 = some res → W p l e rX9_besideOf s m args below meth c H locs 0 0 Q (F0 m 51 ls [.int y0]) := by
        intro H locs x1 x2 x3 x4 x5 y0 ls hP hS hl hf
        unfold fX9_besideOf_51 at hf
        refine lv_istore (lv' := [(6, .int y0), (0, .ref (ad 0)), (1, .int x1), (2, .int x2), (3, .int x3), (4, .int x4), (5, .int x5)]) hx hb dX9_besideOf_51 hl (by decide) rfl (fun ls hl => ?_)
        refine lv_iload hx hb dX9_besideOf_53 (lv_at hl 0 rfl) ?_
        refine lv_if_eq (tgt := 86) hx hb dX9_besideOf_55 (by decide) (fun hc7 => ?_) (fun hc7 => ?_)
        · rw [if_pos hc7] at hf
          exact blk86 _ _ x1 x2 x3 x4 x5 ls hP hS (lv_sub hl [1, 2, 3, 4, 5, 6] rfl) hf
        · rw [if_neg hc7] at hf
          refine lv_iload_n hx hb dX9_besideOf_58 rfl (lv_at hl 4 rfl) ?_
          refine lv_iconst (v := (-1 : Int32)) hx hb dX9_besideOf_59 (by decide) ?_
          refine lv_icmp_eq (tgt := 82) hx hb dX9_besideOf_60 (by decide) (fun hc8 => ?_) (fun hc8 => ?_)
          · rw [if_pos hc8] at hf
            exact blk82 _ _ x1 x2 x3 x4 x5 ls hP hS (lv_sub hl [1, 2, 3, 4, 5, 6] rfl) hf
          · rw [if_neg hc8] at hf
            refine lv_iload_n hx hb dX9_besideOf_63 rfl (lv_at hl 3 rfl) ?_
            refine lv_if_eq (tgt := 76) hx hb dX9_besideOf_64 (by decide) (fun hc9 => ?_) (fun hc9 => ?_)
            · rw [if_pos hc9] at hf
              refine lv_iload hx hb dX9_besideOf_76 (lv_at hl 6 rfl) ?_
              refine lv_iload_n hx hb dX9_besideOf_78 rfl (lv_at hl 4 rfl) ?_
              refine lv_icmp_ge (tgt := 86) hx hb dX9_besideOf_79 (by decide) (fun hc10 => ?_) (fun hc10 => ?_)
              · rw [if_pos hc10] at hf
                exact blk86 _ _ x1 x2 x3 x4 x5 ls hP hS (lv_sub hl [1, 2, 3, 4, 5, 6] rfl) hf
              · rw [if_neg hc10] at hf
                exact blk82 _ _ x1 x2 x3 x4 x5 ls hP hS (lv_sub hl [1, 2, 3, 4, 5, 6] rfl) hf
            · rw [if_neg hc9] at hf
              refine lv_iload hx hb dX9_besideOf_67 (lv_at hl 6 rfl) ?_
              refine lv_iload_n hx hb dX9_besideOf_69 rfl (lv_at hl 4 rfl) ?_
              refine lv_icmp_le (tgt := 86) hx hb dX9_besideOf_70 (by decide) (fun hc11 => ?_) (fun hc11 => ?_)
              · rw [if_pos hc11] at hf
                exact blk86 _ _ x1 x2 x3 x4 x5 ls hP hS (lv_sub hl [1, 2, 3, 4, 5, 6] rfl) hf
              · rw [if_neg hc11] at hf
                refine lv_goto (tgt := 82) hx hb dX9_besideOf_73 (by decide) ?_
                exact blk82 _ _ x1 x2 x3 x4 x5 ls hP hS (lv_sub hl [1, 2, 3, 4, 5, 6] rfl) hf
      have blk50 : ∀ (H : Heap) (locs : List Loc) (x1 : Int32) (x2 : Int32) (x3 : Int32) (x4 : Int32) (x5 : Int32) (ls : Array Slot), va_P D vwCl (mw cI cZ ad un sd now past images iseed kept order numof above pile aside fewest deep keys worths) H → va_S (gA 15 ad) s.heap H locs → lv_has ls 8 [(0, .ref (ad 0)), (1, .int x1), (2, .int x2), (3, .int x3), (4, .int x4), (5, .int x5)] → fX9_besideOf_50 F now (fun x1 x2 x3 x4 => fX9_besideOf_5 F now n5 x1 x2 x3 x4) x1 x2 x3 x4 x5 = some res → W p l e rX9_besideOf s m args below meth c H locs 0 0 Q (F0 m 50 ls []) := by
        intro H locs x1 x2 x3 x4 x5 ls hP hS hl hf
        unfold fX9_besideOf_50 at hf
        refine lv_iconst (v := (0 : Int32)) hx hb dX9_besideOf_50 (by decide) ?_
        exact blk51 _ _ x1 x2 x3 x4 x5 (0 : Int32) ls hP hS (lv_sub hl [0, 1, 2, 3, 4, 5] rfl) hf
      have blk46 : ∀ (H : Heap) (locs : List Loc) (x1 : Int32) (x2 : Int32) (x3 : Int32) (x4 : Int32) (x5 : Int32) (ls : Array Slot), va_P D vwCl (mw cI cZ ad un sd now past images iseed kept order numof above pile aside fewest deep keys worths) H → va_S (gA 15 ad) s.heap H locs → lv_has ls 8 [(0, .ref (ad 0)), (1, .int x1), (2, .int x2), (3, .int x3), (4, .int x4), (5, .int x5)] → fX9_besideOf_46 F now (fun x1 x2 x3 x4 => fX9_besideOf_5 F now n5 x1 x2 x3 x4) x1 x2 x3 x4 x5 = some res → W p l e rX9_besideOf s m args below meth c H locs 0 0 Q (F0 m 46 ls []) := by
        intro H locs x1 x2 x3 x4 x5 ls hP hS hl hf
        unfold fX9_besideOf_46 at hf
        refine lv_iconst (v := (1 : Int32)) hx hb dX9_besideOf_46 (by decide) ?_
        refine lv_goto (tgt := 51) hx hb dX9_besideOf_47 (by decide) ?_
        exact blk51 _ _ x1 x2 x3 x4 x5 (1 : Int32) ls hP hS (lv_sub hl [0, 1, 2, 3, 4, 5] rfl) hf
      intro H locs x1 x2 x3 x4 ls hP hS hl hf
      rw [fX9_besideOf_5] at hf
      refine lv_iload hx hb dX9_besideOf_5 (lv_at hl 4 rfl) ?_
      refine lv_bipush (v := (60 : Int32)) hx hb dX9_besideOf_7 (by decide) ?_
      refine lv_icmp_ge (tgt := 107) hx hb dX9_besideOf_9 (by decide) (fun hc1 => ?_) (fun hc1 => ?_)
      · rw [if_pos hc1] at hf
        refine lv_iload_n hx hb dX9_besideOf_107 rfl (lv_at hl 3 rfl) ?_
        have e0 := Option.some.inj hf
        subst e0
        exact hret _ _ _ _ hP hS dX9_besideOf_108
      · rw [if_neg hc1] at hf
        refine lv_aload_n hx hb dX9_besideOf_12 rfl (lv_at hl 0 rfl) ?_
        refine lv_iload hx hb dX9_besideOf_13 (lv_at hl 4 rfl) ?_
        refine lv_iconst (v := (0 : Int32)) hx hb dX9_besideOf_15 (by decide) ?_
        obtain ⟨q2, hq2, hf⟩ := obE hf
        refine ct_cVi (rest := []) (tX9_of hD hq2) hx hb hml hown ht hX hP hS wX9_of kML_RX9_63 rfl rfl ⟨Nat.le_of_ble_eq_true rfl, Nat.le_of_ble_eq_true rfl⟩ (va_recv hX.1 hP rfl mw_obj) rfl hl.1 rfl (Nat.le_of_ble_eq_true rfl) dX9_besideOf_16 (fun H locs hP hS => ?_)
        refine lv_istore (lv' := [(5, .int q2), (0, .ref (ad 0)), (1, .int x1), (2, .int x2), (3, .int x3), (4, .int x4)]) hx hb dX9_besideOf_19 hl (by decide) rfl (fun ls hl => ?_)
        refine lv_iload hx hb dX9_besideOf_21 (lv_at hl 0 rfl) ?_
        refine lv_iconst (v := (-1 : Int32)) hx hb dX9_besideOf_23 (by decide) ?_
        refine lv_icmp_eq (tgt := 50) hx hb dX9_besideOf_24 (by decide) (fun hc3 => ?_) (fun hc3 => ?_)
        · rw [if_pos hc3] at hf
          exact blk50 _ _ x1 x2 x3 x4 q2 ls hP hS (lv_sub hl [1, 2, 3, 4, 5, 0] rfl) hf
        · rw [if_neg hc3] at hf
          refine lv_iload_n hx hb dX9_besideOf_27 rfl (lv_at hl 3 rfl) ?_
          refine lv_if_eq (tgt := 40) hx hb dX9_besideOf_28 (by decide) (fun hc4 => ?_) (fun hc4 => ?_)
          · rw [if_pos hc4] at hf
            refine lv_iload hx hb dX9_besideOf_40 (lv_at hl 0 rfl) ?_
            refine lv_iload_n hx hb dX9_besideOf_42 rfl (lv_at hl 2 rfl) ?_
            refine lv_icmp_le (tgt := 50) hx hb dX9_besideOf_43 (by decide) (fun hc5 => ?_) (fun hc5 => ?_)
            · rw [if_pos hc5] at hf
              exact blk50 _ _ x1 x2 x3 x4 q2 ls hP hS (lv_sub hl [1, 2, 3, 4, 5, 0] rfl) hf
            · rw [if_neg hc5] at hf
              exact blk46 _ _ x1 x2 x3 x4 q2 ls hP hS (lv_sub hl [1, 2, 3, 4, 5, 0] rfl) hf
          · rw [if_neg hc4] at hf
            refine lv_iload hx hb dX9_besideOf_31 (lv_at hl 0 rfl) ?_
            refine lv_iload_n hx hb dX9_besideOf_33 rfl (lv_at hl 2 rfl) ?_
            refine lv_icmp_ge (tgt := 50) hx hb dX9_besideOf_34 (by decide) (fun hc6 => ?_) (fun hc6 => ?_)
            · rw [if_pos hc6] at hf
              exact blk50 _ _ x1 x2 x3 x4 q2 ls hP hS (lv_sub hl [1, 2, 3, 4, 5, 0] rfl) hf
            · rw [if_neg hc6] at hf
              refine lv_goto (tgt := 46) hx hb dX9_besideOf_37 (by decide) ?_
              exact blk46 _ _ x1 x2 x3 x4 q2 ls hP hS (lv_sub hl [1, 2, 3, 4, 5, 0] rfl) hf
  unfold fX9_besideOf at hf
  refine lv_iconst (v := (-1 : Int32)) hx hb dX9_besideOf_0 (by decide) ?_
  refine lv_istore_n (lv' := [(3, .int ((-1 : Int32))), (0, .ref (ad 0)), (1, .int x1), (2, .int x2)]) hx hb dX9_besideOf_1 rfl hl (by decide) rfl (fun ls hl => ?_)
  refine lv_iconst (v := (0 : Int32)) hx hb dX9_besideOf_2 (by decide) ?_
  refine lv_istore (lv' := [(4, .int ((0 : Int32))), (3, .int ((-1 : Int32))), (0, .ref (ad 0)), (1, .int x1), (2, .int x2)]) hx hb dX9_besideOf_3 hl (by decide) rfl (fun ls hl => ?_)
  exact blk5 F _ _ x1 x2 (-1 : Int32) (0 : Int32) ls hP hS (lv_sub hl [2, 3, 4, 1, 0] rfl) hf
def fX9_sumOf_4 (F : Nat) (now : Nat → Int32) : Nat → Int32 → Int32 → Int32 → Option (Int32)
  | 0, _, _, _ => none
  | n + 1, x1, x2, x3 => if (60 : Int32) ≤ x3 then (some x2) else ((fX9_of F now x3 (0 : Int32)).bind fun q2 => (if q2 = (-1 : Int32) then (fX9_sumOf_4 F now n x1 (x2 + (0 : Int32)) (x3 + (1 : Int32))) else ((fX9_of F now x3 x1).bind fun q4 => (fX9_sumOf_4 F now n x1 (x2 + q4) (x3 + (1 : Int32))))))
def fX9_sumOf (F : Nat) (now : Nat → Int32) (x1 : Int32) : Option (Int32) := fX9_sumOf_4 F now F x1 (0 : Int32) (0 : Int32)
abbrev rX9_sumOf : Room := { frames := 1, cells := 0, slots := 0, locals := 22 }
theorem wX9_sumOf : kV yX9_sumOf cX9_sumOf 4 (some .int) 1 := ⟨kCO_yX9_sumOf, kIM_yX9_sumOf, kSE_yX9_sumOf, kIN_RX9, by decide +kernel, by decide +kernel, by decide +kernel⟩
set_option maxHeartbeats 4000000 in
set_option maxRecDepth 100000 in
theorem tX9_sumOf {l : Launch} {D : va_G} {cI cZ : ClassId} {ad : Nat → Nat} (hD : gInj 15 ad) {F : Nat} {un sd : Int32} {now past images iseed kept order numof above pile aside fewest deep keys worths : Nat → Int32} {x1 : Int32} {res : Int32} (hf : fX9_sumOf F now x1 = some res) : CTi l yX9_sumOf cX9_sumOf 4 .int rX9_sumOf D (mTy cI cZ) (gA 15 ad) [.ref (ad 0), .int x1] (mw cI cZ ad un sd now past images iseed kept order numof above pile aside fewest deep keys worths) res (mw cI cZ ad un sd now past images iseed kept order numof above pile aside fewest deep keys worths) := by
  refine ct_int (by decide) (Nat.le_of_ble_eq_true rfl) ?_
  intro p e s m args below meth c Q ls hx hb hml hown ht hX hret hP hS hl
  have hl : lv_has ls 4 [(0, .ref (ad 0)), (1, .int x1)] := hl
  have blk4 : ∀ (n4 : Nat) (H : Heap) (locs : List Loc) (x1 : Int32) (x2 : Int32) (x3 : Int32) (ls : Array Slot), va_P D vwCl (mw cI cZ ad un sd now past images iseed kept order numof above pile aside fewest deep keys worths) H → va_S (gA 15 ad) s.heap H locs → lv_has ls 4 [(0, .ref (ad 0)), (1, .int x1), (2, .int x2), (3, .int x3)] → fX9_sumOf_4 F now n4 x1 x2 x3 = some res → W p l e rX9_sumOf s m args below meth c H locs 0 0 Q (F0 m 4 ls []) := by
    intro n4
    induction n4 with
    | zero =>
      intro H locs x1 x2 x3 ls hP hS hl hf
      rw [fX9_sumOf_4] at hf
      cases hf
    | succ n4 ih4 =>
      skip
      intro H locs x1 x2 x3 ls hP hS hl hf
      rw [fX9_sumOf_4] at hf
      refine lv_iload_n hx hb dX9_sumOf_4 rfl (lv_at hl 3 rfl) ?_
      refine lv_bipush (v := (60 : Int32)) hx hb dX9_sumOf_5 (by decide) ?_
      refine lv_icmp_ge (tgt := 39) hx hb dX9_sumOf_7 (by decide) (fun hc1 => ?_) (fun hc1 => ?_)
      · rw [if_pos hc1] at hf
        refine lv_iload_n hx hb dX9_sumOf_39 rfl (lv_at hl 2 rfl) ?_
        have e0 := Option.some.inj hf
        subst e0
        exact hret _ _ _ _ hP hS dX9_sumOf_40
      · rw [if_neg hc1] at hf
        refine lv_iload_n hx hb dX9_sumOf_10 rfl (lv_at hl 2 rfl) ?_
        refine lv_aload_n hx hb dX9_sumOf_11 rfl (lv_at hl 0 rfl) ?_
        refine lv_iload_n hx hb dX9_sumOf_12 rfl (lv_at hl 3 rfl) ?_
        refine lv_iconst (v := (0 : Int32)) hx hb dX9_sumOf_13 (by decide) ?_
        obtain ⟨q2, hq2, hf⟩ := obE hf
        refine ct_cVi (rest := [.int x2]) (tX9_of hD hq2) hx hb hml hown ht hX hP hS wX9_of kML_RX9_63 rfl rfl ⟨Nat.le_of_ble_eq_true rfl, Nat.le_of_ble_eq_true rfl⟩ (va_recv hX.1 hP rfl mw_obj) rfl hl.1 rfl (Nat.le_of_ble_eq_true rfl) dX9_sumOf_14 (fun H locs hP hS => ?_)
        refine lv_iconst (v := (-1 : Int32)) hx hb dX9_sumOf_17 (by decide) ?_
        refine lv_icmp_ne (tgt := 25) hx hb dX9_sumOf_18 (by decide) (fun hc3 => ?_) (fun hc3 => ?_)
        · rw [if_neg hc3] at hf
          refine lv_aload_n hx hb dX9_sumOf_25 rfl (lv_at hl 0 rfl) ?_
          refine lv_iload_n hx hb dX9_sumOf_26 rfl (lv_at hl 3 rfl) ?_
          refine lv_iload_n hx hb dX9_sumOf_27 rfl (lv_at hl 1 rfl) ?_
          obtain ⟨q4, hq4, hf⟩ := obE hf
          refine ct_cVi (rest := [.int x2]) (tX9_of hD hq4) hx hb hml hown ht hX hP hS wX9_of kML_RX9_63 rfl rfl ⟨Nat.le_of_ble_eq_true rfl, Nat.le_of_ble_eq_true rfl⟩ (va_recv hX.1 hP rfl mw_obj) rfl hl.1 rfl (Nat.le_of_ble_eq_true rfl) dX9_sumOf_28 (fun H locs hP hS => ?_)
          refine lv_iadd hx hb dX9_sumOf_31 ?_
          refine lv_istore_n (lv' := [(2, .int (x2 + q4)), (0, .ref (ad 0)), (1, .int x1), (3, .int x3)]) hx hb dX9_sumOf_32 rfl hl (by decide) rfl (fun ls hl => ?_)
          refine lv_iinc (v := x3 + (1 : Int32)) (lv' := [(3, .int (x3 + (1 : Int32))), (2, .int (x2 + q4)), (0, .ref (ad 0)), (1, .int x1)]) hx hb dX9_sumOf_33 hl (k := 3) rfl rfl (by decide) rfl (fun ls hl => ?_)
          refine lv_goto (tgt := 4) hx hb dX9_sumOf_36 (by decide) ?_
          exact ih4 _ _ x1 (x2 + q4) (x3 + (1 : Int32)) ls hP hS (lv_sub hl [2, 3, 1, 0] rfl) hf
        · rw [if_pos hc3] at hf
          refine lv_iconst (v := (0 : Int32)) hx hb dX9_sumOf_21 (by decide) ?_
          refine lv_goto (tgt := 31) hx hb dX9_sumOf_22 (by decide) ?_
          refine lv_iadd hx hb dX9_sumOf_31 ?_
          refine lv_istore_n (lv' := [(2, .int (x2 + (0 : Int32))), (0, .ref (ad 0)), (1, .int x1), (3, .int x3)]) hx hb dX9_sumOf_32 rfl hl (by decide) rfl (fun ls hl => ?_)
          refine lv_iinc (v := x3 + (1 : Int32)) (lv' := [(3, .int (x3 + (1 : Int32))), (2, .int (x2 + (0 : Int32))), (0, .ref (ad 0)), (1, .int x1)]) hx hb dX9_sumOf_33 hl (k := 3) rfl rfl (by decide) rfl (fun ls hl => ?_)
          refine lv_goto (tgt := 4) hx hb dX9_sumOf_36 (by decide) ?_
          exact ih4 _ _ x1 (x2 + (0 : Int32)) (x3 + (1 : Int32)) ls hP hS (lv_sub hl [2, 3, 1, 0] rfl) hf
  unfold fX9_sumOf at hf
  refine lv_iconst (v := (0 : Int32)) hx hb dX9_sumOf_0 (by decide) ?_
  refine lv_istore_n (lv' := [(2, .int ((0 : Int32))), (0, .ref (ad 0)), (1, .int x1)]) hx hb dX9_sumOf_1 rfl hl (by decide) rfl (fun ls hl => ?_)
  refine lv_iconst (v := (0 : Int32)) hx hb dX9_sumOf_2 (by decide) ?_
  refine lv_istore_n (lv' := [(3, .int ((0 : Int32))), (2, .int ((0 : Int32))), (0, .ref (ad 0)), (1, .int x1)]) hx hb dX9_sumOf_3 rfl hl (by decide) rfl (fun ls hl => ?_)
  exact blk4 F _ _ x1 (0 : Int32) (0 : Int32) ls hP hS (lv_sub hl [2, 3, 1, 0] rfl) hf
def fX9_twos_58 (F : Nat) (now : Nat → Int32) (k4 : Int32 → Int32 → Option (Int32)) (x2 : Int32) (y0 : Int32) : Option (Int32) := k4 (y0 + (0 : Int32)) (x2 + (1 : Int32))
def fX9_twos_33 (F : Nat) (now : Nat → Int32) (k4 : Int32 → Int32 → Option (Int32)) (x1 : Int32) (x2 : Int32) (y0 : Int32) : Option (Int32) := if y0 = 0 then (fX9_twos_58 F now k4 x2 x1) else ((fX9_of F now x2 (5 : Int32)).bind fun q7 => ((fX9_step F now q7 x2).bind fun q8 => (if q8 = (2 : Int32) then (k4 (x1 + (1 : Int32)) (x2 + (1 : Int32))) else (fX9_twos_58 F now k4 x2 x1))))
def fX9_twos_32 (F : Nat) (now : Nat → Int32) (k4 : Int32 → Int32 → Option (Int32)) (x1 : Int32) (x2 : Int32) : Option (Int32) := fX9_twos_33 F now k4 x1 x2 (0 : Int32)
def fX9_twos_4 (F : Nat) (now : Nat → Int32) : Nat → Int32 → Int32 → Option (Int32)
  | 0, _, _ => none
  | n + 1, x1, x2 => if (60 : Int32) ≤ x2 then (some x1) else ((fX9_of F now x2 (0 : Int32)).bind fun q2 => (if q2 = (-1 : Int32) then (fX9_twos_32 F now (fun x1 x2 => fX9_twos_4 F now n x1 x2) x1 x2) else ((fX9_top F now).bind fun q4 => (if x2 = q4 then (fX9_twos_32 F now (fun x1 x2 => fX9_twos_4 F now n x1 x2) x1 x2) else (fX9_twos_33 F now (fun x1 x2 => fX9_twos_4 F now n x1 x2) x1 x2 (1 : Int32))))))
def fX9_twos (F : Nat) (now : Nat → Int32) : Option (Int32) := fX9_twos_4 F now F (0 : Int32) (0 : Int32)
abbrev rX9_twos : Room := { frames := 3, cells := 0, slots := 0, locals := 65 }
theorem wX9_twos : kV yX9_twos cX9_twos 4 (some .int) 0 := ⟨kCO_yX9_twos, kIM_yX9_twos, kSE_yX9_twos, kIN_RX9, by decide +kernel, by decide +kernel, by decide +kernel⟩
set_option maxHeartbeats 4000000 in
set_option maxRecDepth 100000 in
theorem tX9_twos {l : Launch} {D : va_G} {cI cZ : ClassId} {ad : Nat → Nat} (hD : gInj 15 ad) {F : Nat} {un sd : Int32} {now past images iseed kept order numof above pile aside fewest deep keys worths : Nat → Int32} {res : Int32} (hf : fX9_twos F now = some res) : CTi l yX9_twos cX9_twos 4 .int rX9_twos D (mTy cI cZ) (gA 15 ad) [.ref (ad 0)] (mw cI cZ ad un sd now past images iseed kept order numof above pile aside fewest deep keys worths) res (mw cI cZ ad un sd now past images iseed kept order numof above pile aside fewest deep keys worths) := by
  refine ct_int (by decide) (Nat.le_of_ble_eq_true rfl) ?_
  intro p e s m args below meth c Q ls hx hb hml hown ht hX hret hP hS hl
  have hl : lv_has ls 4 [(0, .ref (ad 0))] := hl
  have blk4 : ∀ (n4 : Nat) (H : Heap) (locs : List Loc) (x1 : Int32) (x2 : Int32) (ls : Array Slot), va_P D vwCl (mw cI cZ ad un sd now past images iseed kept order numof above pile aside fewest deep keys worths) H → va_S (gA 15 ad) s.heap H locs → lv_has ls 4 [(0, .ref (ad 0)), (1, .int x1), (2, .int x2)] → fX9_twos_4 F now n4 x1 x2 = some res → W p l e rX9_twos s m args below meth c H locs 0 0 Q (F0 m 4 ls []) := by
    intro n4
    induction n4 with
    | zero =>
      intro H locs x1 x2 ls hP hS hl hf
      rw [fX9_twos_4] at hf
      cases hf
    | succ n4 ih4 =>
      skip
      have blk58 : ∀ (H : Heap) (locs : List Loc) (x2 : Int32) (y0 : Int32) (ls : Array Slot), va_P D vwCl (mw cI cZ ad un sd now past images iseed kept order numof above pile aside fewest deep keys worths) H → va_S (gA 15 ad) s.heap H locs → lv_has ls 4 [(0, .ref (ad 0)), (2, .int x2)] → fX9_twos_58 F now (fun x1 x2 => fX9_twos_4 F now n4 x1 x2) x2 y0 = some res → W p l e rX9_twos s m args below meth c H locs 0 0 Q (F0 m 58 ls [.int y0]) := by
        intro H locs x2 y0 ls hP hS hl hf
        unfold fX9_twos_58 at hf
        refine lv_iconst (v := (0 : Int32)) hx hb dX9_twos_58 (by decide) ?_
        refine lv_iadd hx hb dX9_twos_59 ?_
        refine lv_istore_n (lv' := [(1, .int (y0 + (0 : Int32))), (0, .ref (ad 0)), (2, .int x2)]) hx hb dX9_twos_60 rfl hl (by decide) rfl (fun ls hl => ?_)
        refine lv_iinc (v := x2 + (1 : Int32)) (lv' := [(2, .int (x2 + (1 : Int32))), (1, .int (y0 + (0 : Int32))), (0, .ref (ad 0))]) hx hb dX9_twos_61 hl (k := 2) rfl rfl (by decide) rfl (fun ls hl => ?_)
        refine lv_goto (tgt := 4) hx hb dX9_twos_64 (by decide) ?_
        exact ih4 _ _ (y0 + (0 : Int32)) (x2 + (1 : Int32)) ls hP hS (lv_sub hl [2, 1, 0] rfl) hf
      have blk33 : ∀ (H : Heap) (locs : List Loc) (x1 : Int32) (x2 : Int32) (y0 : Int32) (ls : Array Slot), va_P D vwCl (mw cI cZ ad un sd now past images iseed kept order numof above pile aside fewest deep keys worths) H → va_S (gA 15 ad) s.heap H locs → lv_has ls 4 [(0, .ref (ad 0)), (1, .int x1), (2, .int x2)] → fX9_twos_33 F now (fun x1 x2 => fX9_twos_4 F now n4 x1 x2) x1 x2 y0 = some res → W p l e rX9_twos s m args below meth c H locs 0 0 Q (F0 m 33 ls [.int y0]) := by
        intro H locs x1 x2 y0 ls hP hS hl hf
        unfold fX9_twos_33 at hf
        refine lv_istore_n (lv' := [(3, .int y0), (0, .ref (ad 0)), (1, .int x1), (2, .int x2)]) hx hb dX9_twos_33 rfl hl (by decide) rfl (fun ls hl => ?_)
        refine lv_iload_n hx hb dX9_twos_34 rfl (lv_at hl 2 rfl) ?_
        refine lv_iload_n hx hb dX9_twos_35 rfl (lv_at hl 0 rfl) ?_
        refine lv_if_eq (tgt := 58) hx hb dX9_twos_36 (by decide) (fun hc6 => ?_) (fun hc6 => ?_)
        · rw [if_pos hc6] at hf
          exact blk58 _ _ x2 x1 ls hP hS (lv_sub hl [1, 3] rfl) hf
        · rw [if_neg hc6] at hf
          refine lv_aload_n hx hb dX9_twos_39 rfl (lv_at hl 1 rfl) ?_
          refine lv_aload_n hx hb dX9_twos_40 rfl (lv_at hl 1 rfl) ?_
          refine lv_iload_n hx hb dX9_twos_41 rfl (lv_at hl 3 rfl) ?_
          refine lv_iconst (v := (5 : Int32)) hx hb dX9_twos_42 (by decide) ?_
          obtain ⟨q7, hq7, hf⟩ := obE hf
          refine ct_cVi (rest := [.ref (ad 0), .int x1]) (tX9_of hD hq7) hx hb hml hown ht hX hP hS wX9_of kML_RX9_63 rfl rfl ⟨Nat.le_of_ble_eq_true rfl, Nat.le_of_ble_eq_true rfl⟩ (va_recv hX.1 hP rfl mw_obj) rfl hl.1 rfl (Nat.le_of_ble_eq_true rfl) dX9_twos_43 (fun H locs hP hS => ?_)
          refine lv_iload_n hx hb dX9_twos_46 rfl (lv_at hl 3 rfl) ?_
          obtain ⟨q8, hq8, hf⟩ := obE hf
          refine ct_cVi (rest := [.int x1]) (tX9_step hD hq8) hx hb hml hown ht hX hP hS wX9_step kML_RX9_100 rfl rfl ⟨Nat.le_of_ble_eq_true rfl, Nat.le_of_ble_eq_true rfl⟩ (va_recv hX.1 hP rfl mw_obj) rfl hl.1 rfl (Nat.le_of_ble_eq_true rfl) dX9_twos_47 (fun H locs hP hS => ?_)
          refine lv_iconst (v := (2 : Int32)) hx hb dX9_twos_50 (by decide) ?_
          refine lv_icmp_ne (tgt := 58) hx hb dX9_twos_51 (by decide) (fun hc9 => ?_) (fun hc9 => ?_)
          · rw [if_neg hc9] at hf
            exact blk58 _ _ x2 x1 ls hP hS (lv_sub hl [1, 3] rfl) hf
          · rw [if_pos hc9] at hf
            refine lv_iconst (v := (1 : Int32)) hx hb dX9_twos_54 (by decide) ?_
            refine lv_goto (tgt := 59) hx hb dX9_twos_55 (by decide) ?_
            refine lv_iadd hx hb dX9_twos_59 ?_
            refine lv_istore_n (lv' := [(1, .int (x1 + (1 : Int32))), (3, .int y0), (0, .ref (ad 0)), (2, .int x2)]) hx hb dX9_twos_60 rfl hl (by decide) rfl (fun ls hl => ?_)
            refine lv_iinc (v := x2 + (1 : Int32)) (lv' := [(2, .int (x2 + (1 : Int32))), (1, .int (x1 + (1 : Int32))), (3, .int y0), (0, .ref (ad 0))]) hx hb dX9_twos_61 hl (k := 3) rfl rfl (by decide) rfl (fun ls hl => ?_)
            refine lv_goto (tgt := 4) hx hb dX9_twos_64 (by decide) ?_
            exact ih4 _ _ (x1 + (1 : Int32)) (x2 + (1 : Int32)) ls hP hS (lv_sub hl [3, 1, 0] rfl) hf
      have blk32 : ∀ (H : Heap) (locs : List Loc) (x1 : Int32) (x2 : Int32) (ls : Array Slot), va_P D vwCl (mw cI cZ ad un sd now past images iseed kept order numof above pile aside fewest deep keys worths) H → va_S (gA 15 ad) s.heap H locs → lv_has ls 4 [(0, .ref (ad 0)), (1, .int x1), (2, .int x2)] → fX9_twos_32 F now (fun x1 x2 => fX9_twos_4 F now n4 x1 x2) x1 x2 = some res → W p l e rX9_twos s m args below meth c H locs 0 0 Q (F0 m 32 ls []) := by
        intro H locs x1 x2 ls hP hS hl hf
        unfold fX9_twos_32 at hf
        refine lv_iconst (v := (0 : Int32)) hx hb dX9_twos_32 (by decide) ?_
        exact blk33 _ _ x1 x2 (0 : Int32) ls hP hS (lv_sub hl [0, 1, 2] rfl) hf
      intro H locs x1 x2 ls hP hS hl hf
      rw [fX9_twos_4] at hf
      refine lv_iload_n hx hb dX9_twos_4 rfl (lv_at hl 2 rfl) ?_
      refine lv_bipush (v := (60 : Int32)) hx hb dX9_twos_5 (by decide) ?_
      refine lv_icmp_ge (tgt := 67) hx hb dX9_twos_7 (by decide) (fun hc1 => ?_) (fun hc1 => ?_)
      · rw [if_pos hc1] at hf
        refine lv_iload_n hx hb dX9_twos_67 rfl (lv_at hl 1 rfl) ?_
        have e0 := Option.some.inj hf
        subst e0
        exact hret _ _ _ _ hP hS dX9_twos_68
      · rw [if_neg hc1] at hf
        refine lv_aload_n hx hb dX9_twos_10 rfl (lv_at hl 0 rfl) ?_
        refine lv_iload_n hx hb dX9_twos_11 rfl (lv_at hl 2 rfl) ?_
        refine lv_iconst (v := (0 : Int32)) hx hb dX9_twos_12 (by decide) ?_
        obtain ⟨q2, hq2, hf⟩ := obE hf
        refine ct_cVi (rest := []) (tX9_of hD hq2) hx hb hml hown ht hX hP hS wX9_of kML_RX9_63 rfl rfl ⟨Nat.le_of_ble_eq_true rfl, Nat.le_of_ble_eq_true rfl⟩ (va_recv hX.1 hP rfl mw_obj) rfl hl.1 rfl (Nat.le_of_ble_eq_true rfl) dX9_twos_13 (fun H locs hP hS => ?_)
        refine lv_iconst (v := (-1 : Int32)) hx hb dX9_twos_16 (by decide) ?_
        refine lv_icmp_eq (tgt := 32) hx hb dX9_twos_17 (by decide) (fun hc3 => ?_) (fun hc3 => ?_)
        · rw [if_pos hc3] at hf
          exact blk32 _ _ x1 x2 ls hP hS (lv_sub hl [0, 1, 2] rfl) hf
        · rw [if_neg hc3] at hf
          refine lv_iload_n hx hb dX9_twos_20 rfl (lv_at hl 2 rfl) ?_
          refine lv_aload_n hx hb dX9_twos_21 rfl (lv_at hl 0 rfl) ?_
          obtain ⟨q4, hq4, hf⟩ := obE hf
          refine ct_cVi (rest := [.int x2]) (tX9_top hD hq4) hx hb hml hown ht hX hP hS wX9_top kML_RX9_87 rfl rfl ⟨Nat.le_of_ble_eq_true rfl, Nat.le_of_ble_eq_true rfl⟩ (va_recv hX.1 hP rfl mw_obj) rfl hl.1 rfl (Nat.le_of_ble_eq_true rfl) dX9_twos_22 (fun H locs hP hS => ?_)
          refine lv_icmp_eq (tgt := 32) hx hb dX9_twos_25 (by decide) (fun hc5 => ?_) (fun hc5 => ?_)
          · rw [if_pos hc5] at hf
            exact blk32 _ _ x1 x2 ls hP hS (lv_sub hl [0, 1, 2] rfl) hf
          · rw [if_neg hc5] at hf
            refine lv_iconst (v := (1 : Int32)) hx hb dX9_twos_28 (by decide) ?_
            refine lv_goto (tgt := 33) hx hb dX9_twos_29 (by decide) ?_
            exact blk33 _ _ x1 x2 (1 : Int32) ls hP hS (lv_sub hl [0, 1, 2] rfl) hf
  unfold fX9_twos at hf
  refine lv_iconst (v := (0 : Int32)) hx hb dX9_twos_0 (by decide) ?_
  refine lv_istore_n (lv' := [(1, .int ((0 : Int32))), (0, .ref (ad 0))]) hx hb dX9_twos_1 rfl hl (by decide) rfl (fun ls hl => ?_)
  refine lv_iconst (v := (0 : Int32)) hx hb dX9_twos_2 (by decide) ?_
  refine lv_istore_n (lv' := [(2, .int ((0 : Int32))), (1, .int ((0 : Int32))), (0, .ref (ad 0))]) hx hb dX9_twos_3 rfl hl (by decide) rfl (fun ls hl => ?_)
  exact blk4 F _ _ (0 : Int32) (0 : Int32) ls hP hS (lv_sub hl [2, 1, 0] rfl) hf
def fX9_costs_65 (F : Nat) : Nat → (Nat → Int32) → (Nat → Int32) → Int32 → Int32 → Option (Int32 × (Nat → Int32) × (Nat → Int32))
  | 0, _, _, _, _ => none
  | n + 1, now, aside, x2, x3 => if (368 : Int32) ≤ x3 then (some (x2, now, aside)) else (if x3 < 0 ∨ 368 ≤ x3.toNatClampNeg then none else (if x3 < 0 ∨ 368 ≤ x3.toNatClampNeg then none else (fX9_costs_65 F n (upd now x3.toNatClampNeg (aside x3.toNatClampNeg)) aside x2 (x3 + (1 : Int32)))))
def fX9_costs_2 (F : Nat) : Nat → (Nat → Int32) → (Nat → Int32) → Int32 → Int32 → Option (Int32 × (Nat → Int32) × (Nat → Int32))
  | 0, _, _, _, _ => none
  | n + 1, now, aside, x1, x2 => if (368 : Int32) ≤ x2 then ((fX9_find F now x1).bind fun q2 => ((fX9_takes F now q2).bind fun q3 => (if (365 : Int32) < 0 ∨ 368 ≤ (365 : Int32).toNatClampNeg then none else (if (366 : Int32) < 0 ∨ 368 ≤ (366 : Int32).toNatClampNeg then none else (if (367 : Int32) < 0 ∨ 368 ≤ (367 : Int32).toNatClampNeg then none else (fX9_costs_65 F F q3 aside (((q3 (365 : Int32).toNatClampNeg) + (q3 (366 : Int32).toNatClampNeg)) + (q3 (367 : Int32).toNatClampNeg)) (0 : Int32))))))) else (if x2 < 0 ∨ 368 ≤ x2.toNatClampNeg then none else (if x2 < 0 ∨ 368 ≤ x2.toNatClampNeg then none else (fX9_costs_2 F n now (upd aside x2.toNatClampNeg (now x2.toNatClampNeg)) x1 (x2 + (1 : Int32)))))
def fX9_costs (F : Nat) (now : Nat → Int32) (aside : Nat → Int32) (x1 : Int32) : Option (Int32 × (Nat → Int32) × (Nat → Int32)) := fX9_costs_2 F F now aside x1 (0 : Int32)
abbrev rX9_costs : Room := { frames := 6, cells := 0, slots := 0, locals := 148 }
theorem wX9_costs : kV yX9_costs cX9_costs 4 (some .int) 1 := ⟨kCO_yX9_costs, kIM_yX9_costs, kSE_yX9_costs, kIN_RX9, by decide +kernel, by decide +kernel, by decide +kernel⟩
set_option maxHeartbeats 4000000 in
set_option maxRecDepth 100000 in
theorem tX9_costs {l : Launch} {D : va_G} {cI cZ : ClassId} {ad : Nat → Nat} (hD : gInj 15 ad) {F : Nat} {un sd : Int32} {now past images iseed kept order numof above pile aside fewest deep keys worths : Nat → Int32} {x1 : Int32} {res : Int32 × (Nat → Int32) × (Nat → Int32)} (hf : fX9_costs F now aside x1 = some res) : CTi l yX9_costs cX9_costs 4 .int rX9_costs D (mTy cI cZ) (gA 15 ad) [.ref (ad 0), .int x1] (mw cI cZ ad un sd now past images iseed kept order numof above pile aside fewest deep keys worths) res.1 (mw cI cZ ad un sd res.2.1 past images iseed kept order numof above pile res.2.2 fewest deep keys worths) := by
  refine ct_int (by decide) (Nat.le_of_ble_eq_true rfl) ?_
  intro p e s m args below meth c Q ls hx hb hml hown ht hX hret hP hS hl
  have hl : lv_has ls 4 [(0, .ref (ad 0)), (1, .int x1)] := hl
  have blk65 : ∀ (n65 : Nat) (H : Heap) (locs : List Loc) (now : Nat → Int32) (aside : Nat → Int32) (x2 : Int32) (x3 : Int32) (ls : Array Slot), va_P D vwCl (mw cI cZ ad un sd now past images iseed kept order numof above pile aside fewest deep keys worths) H → va_S (gA 15 ad) s.heap H locs → lv_has ls 4 [(0, .ref (ad 0)), (2, .int x2), (3, .int x3)] → fX9_costs_65 F n65 now aside x2 x3 = some res → W p l e rX9_costs s m args below meth c H locs 0 0 Q (F0 m 65 ls []) := by
    intro n65
    induction n65 with
    | zero =>
      intro H locs now aside x2 x3 ls hP hS hl hf
      rw [fX9_costs_65] at hf
      cases hf
    | succ n65 ih65 =>
      skip
      intro H locs now aside x2 x3 ls hP hS hl hf
      rw [fX9_costs_65] at hf
      refine lv_iload_n hx hb dX9_costs_65 rfl (lv_at hl 2 rfl) ?_
      refine lv_sipush (v := (368 : Int32)) hx hb dX9_costs_66 (by decide) ?_
      refine lv_icmp_ge (tgt := 90) hx hb dX9_costs_69 (by decide) (fun hc9 => ?_) (fun hc9 => ?_)
      · rw [if_pos hc9] at hf
        refine lv_iload_n hx hb dX9_costs_90 rfl (lv_at hl 1 rfl) ?_
        have e0 := Option.some.inj hf
        subst e0
        exact hret _ _ _ _ hP hS dX9_costs_91
      · rw [if_neg hc9] at hf
        refine lv_aload_n hx hb dX9_costs_72 rfl (lv_at hl 0 rfl) ?_
        refine va_get (ci := 7) (v := .ref (ad 1)) hx hb ht i_X9 hown hX.1 hP 0 mw_obj rfl 0 (by decide) (ht _ kFL_RX9_7) (fun _ h9 => h9) rfl dX9_costs_73 ?_
        refine lv_iload_n hx hb dX9_costs_76 rfl (lv_at hl 2 rfl) ?_
        refine lv_aload_n hx hb dX9_costs_77 rfl (lv_at hl 0 rfl) ?_
        refine va_get (ci := 7) (v := .ref (ad 10)) hx hb ht i_X9 hown hX.1 hP 0 mw_obj rfl 11 (by decide) (ht _ kFL_RX9_38) (fun _ h9 => h9) rfl dX9_costs_78 ?_
        refine lv_iload_n hx hb dX9_costs_81 rfl (lv_at hl 2 rfl) ?_
        obtain ⟨hn10, hf⟩ := ngE _ hf
        refine va_iald hx hb hX.1 hP 10 0 mw_aside rfl hn10 dX9_costs_82 ?_
        obtain ⟨hn11, hf⟩ := ngE _ hf
        refine va_iast hx hb hX.1 hP (gw_D hD _) hS 1 0 mw_now rfl hn11 dX9_costs_83 (fun H locs hP _ hS => ?_)
        rw [mw_set_now] at hP
        refine lv_iinc (v := x3 + (1 : Int32)) (lv' := [(3, .int (x3 + (1 : Int32))), (0, .ref (ad 0)), (2, .int x2)]) hx hb dX9_costs_84 hl (k := 2) rfl rfl (by decide) rfl (fun ls hl => ?_)
        refine lv_goto (tgt := 65) hx hb dX9_costs_87 (by decide) ?_
        exact ih65 _ _ (upd now x3.toNatClampNeg (aside x3.toNatClampNeg)) aside x2 (x3 + (1 : Int32)) ls hP hS (lv_sub hl [1, 2, 0] rfl) hf
  have blk2 : ∀ (n2 : Nat) (H : Heap) (locs : List Loc) (now : Nat → Int32) (aside : Nat → Int32) (x1 : Int32) (x2 : Int32) (ls : Array Slot), va_P D vwCl (mw cI cZ ad un sd now past images iseed kept order numof above pile aside fewest deep keys worths) H → va_S (gA 15 ad) s.heap H locs → lv_has ls 4 [(0, .ref (ad 0)), (1, .int x1), (2, .int x2)] → fX9_costs_2 F n2 now aside x1 x2 = some res → W p l e rX9_costs s m args below meth c H locs 0 0 Q (F0 m 2 ls []) := by
    intro n2
    induction n2 with
    | zero =>
      intro H locs now aside x1 x2 ls hP hS hl hf
      rw [fX9_costs_2] at hf
      cases hf
    | succ n2 ih2 =>
      skip
      intro H locs now aside x1 x2 ls hP hS hl hf
      rw [fX9_costs_2] at hf
      refine lv_iload_n hx hb dX9_costs_2 rfl (lv_at hl 2 rfl) ?_
      refine lv_sipush (v := (368 : Int32)) hx hb dX9_costs_3 (by decide) ?_
      refine lv_icmp_ge (tgt := 27) hx hb dX9_costs_6 (by decide) (fun hc1 => ?_) (fun hc1 => ?_)
      · rw [if_pos hc1] at hf
        refine lv_aload_n hx hb dX9_costs_27 rfl (lv_at hl 0 rfl) ?_
        refine lv_aload_n hx hb dX9_costs_28 rfl (lv_at hl 0 rfl) ?_
        refine lv_iload_n hx hb dX9_costs_29 rfl (lv_at hl 1 rfl) ?_
        obtain ⟨q2, hq2, hf⟩ := obE hf
        refine ct_cVi (rest := [.ref (ad 0)]) (tX9_find hD hq2) hx hb hml hown ht hX hP hS wX9_find kML_RX9_134 rfl rfl ⟨Nat.le_of_ble_eq_true rfl, Nat.le_of_ble_eq_true rfl⟩ (va_recv hX.1 hP rfl mw_obj) rfl hl.1 rfl (Nat.le_of_ble_eq_true rfl) dX9_costs_30 (fun H locs hP hS => ?_)
        obtain ⟨q3, hq3, hf⟩ := obE hf
        refine ct_cVv (rest := []) (tX9_takes hD hq3) hx hb hml hown ht hX hP hS wX9_takes kML_RX9_137 rfl rfl ⟨Nat.le_of_ble_eq_true rfl, Nat.le_of_ble_eq_true rfl⟩ (va_recv hX.1 hP rfl mw_obj) rfl hl.1 rfl (Nat.le_of_ble_eq_true rfl) dX9_costs_33 (fun H locs hP hS => ?_)
        refine lv_aload_n hx hb dX9_costs_36 rfl (lv_at hl 0 rfl) ?_
        refine va_get (ci := 7) (v := .ref (ad 1)) hx hb ht i_X9 hown hX.1 hP 0 mw_obj rfl 0 (by decide) (ht _ kFL_RX9_7) (fun _ h9 => h9) rfl dX9_costs_37 ?_
        refine lv_sipush (v := (365 : Int32)) hx hb dX9_costs_40 (by decide) ?_
        obtain ⟨hn4, hf⟩ := ngE _ hf
        refine va_iald hx hb hX.1 hP 1 0 mw_now rfl hn4 dX9_costs_43 ?_
        refine lv_aload_n hx hb dX9_costs_44 rfl (lv_at hl 0 rfl) ?_
        refine va_get (ci := 7) (v := .ref (ad 1)) hx hb ht i_X9 hown hX.1 hP 0 mw_obj rfl 0 (by decide) (ht _ kFL_RX9_7) (fun _ h9 => h9) rfl dX9_costs_45 ?_
        refine lv_sipush (v := (366 : Int32)) hx hb dX9_costs_48 (by decide) ?_
        obtain ⟨hn5, hf⟩ := ngE _ hf
        refine va_iald hx hb hX.1 hP 1 0 mw_now rfl hn5 dX9_costs_51 ?_
        refine lv_iadd hx hb dX9_costs_52 ?_
        refine lv_aload_n hx hb dX9_costs_53 rfl (lv_at hl 0 rfl) ?_
        refine va_get (ci := 7) (v := .ref (ad 1)) hx hb ht i_X9 hown hX.1 hP 0 mw_obj rfl 0 (by decide) (ht _ kFL_RX9_7) (fun _ h9 => h9) rfl dX9_costs_54 ?_
        refine lv_sipush (v := (367 : Int32)) hx hb dX9_costs_57 (by decide) ?_
        obtain ⟨hn6, hf⟩ := ngE _ hf
        refine va_iald hx hb hX.1 hP 1 0 mw_now rfl hn6 dX9_costs_60 ?_
        refine lv_iadd hx hb dX9_costs_61 ?_
        refine lv_istore_n (lv' := [(2, .int (((q3 (365 : Int32).toNatClampNeg) + (q3 (366 : Int32).toNatClampNeg)) + (q3 (367 : Int32).toNatClampNeg))), (0, .ref (ad 0)), (1, .int x1)]) hx hb dX9_costs_62 rfl hl (by decide) rfl (fun ls hl => ?_)
        refine lv_iconst (v := (0 : Int32)) hx hb dX9_costs_63 (by decide) ?_
        refine lv_istore_n (lv' := [(3, .int ((0 : Int32))), (2, .int (((q3 (365 : Int32).toNatClampNeg) + (q3 (366 : Int32).toNatClampNeg)) + (q3 (367 : Int32).toNatClampNeg))), (0, .ref (ad 0)), (1, .int x1)]) hx hb dX9_costs_64 rfl hl (by decide) rfl (fun ls hl => ?_)
        exact blk65 F _ _ q3 aside (((q3 (365 : Int32).toNatClampNeg) + (q3 (366 : Int32).toNatClampNeg)) + (q3 (367 : Int32).toNatClampNeg)) (0 : Int32) ls hP hS (lv_sub hl [2, 1, 0] rfl) hf
      · rw [if_neg hc1] at hf
        refine lv_aload_n hx hb dX9_costs_9 rfl (lv_at hl 0 rfl) ?_
        refine va_get (ci := 7) (v := .ref (ad 10)) hx hb ht i_X9 hown hX.1 hP 0 mw_obj rfl 11 (by decide) (ht _ kFL_RX9_38) (fun _ h9 => h9) rfl dX9_costs_10 ?_
        refine lv_iload_n hx hb dX9_costs_13 rfl (lv_at hl 2 rfl) ?_
        refine lv_aload_n hx hb dX9_costs_14 rfl (lv_at hl 0 rfl) ?_
        refine va_get (ci := 7) (v := .ref (ad 1)) hx hb ht i_X9 hown hX.1 hP 0 mw_obj rfl 0 (by decide) (ht _ kFL_RX9_7) (fun _ h9 => h9) rfl dX9_costs_15 ?_
        refine lv_iload_n hx hb dX9_costs_18 rfl (lv_at hl 2 rfl) ?_
        obtain ⟨hn7, hf⟩ := ngE _ hf
        refine va_iald hx hb hX.1 hP 1 0 mw_now rfl hn7 dX9_costs_19 ?_
        obtain ⟨hn8, hf⟩ := ngE _ hf
        refine va_iast hx hb hX.1 hP (gw_D hD _) hS 10 0 mw_aside rfl hn8 dX9_costs_20 (fun H locs hP _ hS => ?_)
        rw [mw_set_aside] at hP
        refine lv_iinc (v := x2 + (1 : Int32)) (lv' := [(2, .int (x2 + (1 : Int32))), (0, .ref (ad 0)), (1, .int x1)]) hx hb dX9_costs_21 hl (k := 2) rfl rfl (by decide) rfl (fun ls hl => ?_)
        refine lv_goto (tgt := 2) hx hb dX9_costs_24 (by decide) ?_
        exact ih2 _ _ now (upd aside x2.toNatClampNeg (now x2.toNatClampNeg)) x1 (x2 + (1 : Int32)) ls hP hS (lv_sub hl [1, 2, 0] rfl) hf
  unfold fX9_costs at hf
  refine lv_iconst (v := (0 : Int32)) hx hb dX9_costs_0 (by decide) ?_
  refine lv_istore_n (lv' := [(2, .int ((0 : Int32))), (0, .ref (ad 0)), (1, .int x1)]) hx hb dX9_costs_1 rfl hl (by decide) rfl (fun ls hl => ?_)
  exact blk2 F _ _ now aside x1 (0 : Int32) ls hP hS (lv_sub hl [1, 2, 0] rfl) hf
def fX9_costly_47 (F : Nat) (k11 : (Nat → Int32) → (Nat → Int32) → Int32 → Int32 → Int32 → Option (Int32 × (Nat → Int32) × (Nat → Int32))) (now : Nat → Int32) (aside : Nat → Int32) (x1 : Int32) (x3 : Int32) (y0 : Int32) : Option (Int32 × (Nat → Int32) × (Nat → Int32)) := (fX9_besideOf F now x3 (0 : Int32)).bind fun q6 => (k11 now aside x1 y0 q6)
def fX9_costly_34 (F : Nat) (k11 : (Nat → Int32) → (Nat → Int32) → Int32 → Int32 → Int32 → Option (Int32 × (Nat → Int32) × (Nat → Int32))) (now : Nat → Int32) (aside : Nat → Int32) (x2 : Int32) (x3 : Int32) (x4 : Int32) (y0 : Int32) : Option (Int32 × (Nat → Int32) × (Nat → Int32)) := if x4 ≤ x2 then (fX9_costly_47 F k11 now aside y0 x3 x2) else (fX9_costly_47 F k11 now aside y0 x3 x4)
def fX9_costly_11 (F : Nat) : Nat → (Nat → Int32) → (Nat → Int32) → Int32 → Int32 → Int32 → Option (Int32 × (Nat → Int32) × (Nat → Int32))
  | 0, _, _, _, _, _ => none
  | n + 1, now, aside, x1, x2, x3 => if x3 = (-1 : Int32) then (some (x1, now, aside)) else ((fX9_costs F now aside x3).bind fun q3 => (if q3.1 ≤ x2 then (fX9_costly_34 F (fun now aside x1 x2 x3 => fX9_costly_11 F n now aside x1 x2 x3) q3.2.1 q3.2.2 x2 x3 q3.1 x1) else (fX9_costly_34 F (fun now aside x1 x2 x3 => fX9_costly_11 F n now aside x1 x2 x3) q3.2.1 q3.2.2 x2 x3 q3.1 x3)))
def fX9_costly (F : Nat) (now : Nat → Int32) (aside : Nat → Int32) : Option (Int32 × (Nat → Int32) × (Nat → Int32)) := (fX9_besideOf F now (-1 : Int32) (0 : Int32)).bind fun q1 => (fX9_costly_11 F F now aside (-1 : Int32) (-1 : Int32) q1)
abbrev rX9_costly : Room := { frames := 7, cells := 0, slots := 0, locals := 171 }
theorem wX9_costly : kV yX9_costly cX9_costly 5 (some .int) 0 := ⟨kCO_yX9_costly, kIM_yX9_costly, kSE_yX9_costly, kIN_RX9, by decide +kernel, by decide +kernel, by decide +kernel⟩
set_option maxHeartbeats 4000000 in
set_option maxRecDepth 100000 in
theorem tX9_costly {l : Launch} {D : va_G} {cI cZ : ClassId} {ad : Nat → Nat} (hD : gInj 15 ad) {F : Nat} {un sd : Int32} {now past images iseed kept order numof above pile aside fewest deep keys worths : Nat → Int32} {res : Int32 × (Nat → Int32) × (Nat → Int32)} (hf : fX9_costly F now aside = some res) : CTi l yX9_costly cX9_costly 5 .int rX9_costly D (mTy cI cZ) (gA 15 ad) [.ref (ad 0)] (mw cI cZ ad un sd now past images iseed kept order numof above pile aside fewest deep keys worths) res.1 (mw cI cZ ad un sd res.2.1 past images iseed kept order numof above pile res.2.2 fewest deep keys worths) := by
  refine ct_int (by decide) (Nat.le_of_ble_eq_true rfl) ?_
  intro p e s m args below meth c Q ls hx hb hml hown ht hX hret hP hS hl
  have hl : lv_has ls 5 [(0, .ref (ad 0))] := hl
  have blk11 : ∀ (n11 : Nat) (H : Heap) (locs : List Loc) (now : Nat → Int32) (aside : Nat → Int32) (x1 : Int32) (x2 : Int32) (x3 : Int32) (ls : Array Slot), va_P D vwCl (mw cI cZ ad un sd now past images iseed kept order numof above pile aside fewest deep keys worths) H → va_S (gA 15 ad) s.heap H locs → lv_has ls 5 [(0, .ref (ad 0)), (1, .int x1), (2, .int x2), (3, .int x3)] → fX9_costly_11 F n11 now aside x1 x2 x3 = some res → W p l e rX9_costly s m args below meth c H locs 0 0 Q (F0 m 11 ls []) := by
    intro n11
    induction n11 with
    | zero =>
      intro H locs now aside x1 x2 x3 ls hP hS hl hf
      rw [fX9_costly_11] at hf
      cases hf
    | succ n11 ih11 =>
      skip
      have blk47 : ∀ (H : Heap) (locs : List Loc) (now : Nat → Int32) (aside : Nat → Int32) (x1 : Int32) (x3 : Int32) (y0 : Int32) (ls : Array Slot), va_P D vwCl (mw cI cZ ad un sd now past images iseed kept order numof above pile aside fewest deep keys worths) H → va_S (gA 15 ad) s.heap H locs → lv_has ls 5 [(0, .ref (ad 0)), (1, .int x1), (3, .int x3)] → fX9_costly_47 F (fun now aside x1 x2 x3 => fX9_costly_11 F n11 now aside x1 x2 x3) now aside x1 x3 y0 = some res → W p l e rX9_costly s m args below meth c H locs 0 0 Q (F0 m 47 ls [.int y0]) := by
        intro H locs now aside x1 x3 y0 ls hP hS hl hf
        unfold fX9_costly_47 at hf
        refine lv_istore_n (lv' := [(2, .int y0), (0, .ref (ad 0)), (1, .int x1), (3, .int x3)]) hx hb dX9_costly_47 rfl hl (by decide) rfl (fun ls hl => ?_)
        refine lv_aload_n hx hb dX9_costly_48 rfl (lv_at hl 1 rfl) ?_
        refine lv_iload_n hx hb dX9_costly_49 rfl (lv_at hl 3 rfl) ?_
        refine lv_iconst (v := (0 : Int32)) hx hb dX9_costly_50 (by decide) ?_
        obtain ⟨q6, hq6, hf⟩ := obE hf
        refine ct_cVi (rest := []) (tX9_besideOf hD hq6) hx hb hml hown ht hX hP hS wX9_besideOf kML_RX9_140 rfl rfl ⟨Nat.le_of_ble_eq_true rfl, Nat.le_of_ble_eq_true rfl⟩ (va_recv hX.1 hP rfl mw_obj) rfl hl.1 rfl (Nat.le_of_ble_eq_true rfl) dX9_costly_51 (fun H locs hP hS => ?_)
        refine lv_istore_n (lv' := [(3, .int q6), (2, .int y0), (0, .ref (ad 0)), (1, .int x1)]) hx hb dX9_costly_54 rfl hl (by decide) rfl (fun ls hl => ?_)
        refine lv_goto (tgt := 11) hx hb dX9_costly_55 (by decide) ?_
        exact ih11 _ _ now aside x1 y0 q6 ls hP hS (lv_sub hl [2, 3, 1, 0] rfl) hf
      have blk34 : ∀ (H : Heap) (locs : List Loc) (now : Nat → Int32) (aside : Nat → Int32) (x2 : Int32) (x3 : Int32) (x4 : Int32) (y0 : Int32) (ls : Array Slot), va_P D vwCl (mw cI cZ ad un sd now past images iseed kept order numof above pile aside fewest deep keys worths) H → va_S (gA 15 ad) s.heap H locs → lv_has ls 5 [(0, .ref (ad 0)), (2, .int x2), (3, .int x3), (4, .int x4)] → fX9_costly_34 F (fun now aside x1 x2 x3 => fX9_costly_11 F n11 now aside x1 x2 x3) now aside x2 x3 x4 y0 = some res → W p l e rX9_costly s m args below meth c H locs 0 0 Q (F0 m 34 ls [.int y0]) := by
        intro H locs now aside x2 x3 x4 y0 ls hP hS hl hf
        unfold fX9_costly_34 at hf
        refine lv_istore_n (lv' := [(1, .int y0), (0, .ref (ad 0)), (2, .int x2), (3, .int x3), (4, .int x4)]) hx hb dX9_costly_34 rfl hl (by decide) rfl (fun ls hl => ?_)
        refine lv_iload hx hb dX9_costly_35 (lv_at hl 4 rfl) ?_
        refine lv_iload_n hx hb dX9_costly_37 rfl (lv_at hl 2 rfl) ?_
        refine lv_icmp_le (tgt := 46) hx hb dX9_costly_38 (by decide) (fun hc5 => ?_) (fun hc5 => ?_)
        · rw [if_pos hc5] at hf
          refine lv_iload_n hx hb dX9_costly_46 rfl (lv_at hl 2 rfl) ?_
          exact blk47 _ _ now aside y0 x3 x2 ls hP hS (lv_sub hl [1, 0, 3] rfl) hf
        · rw [if_neg hc5] at hf
          refine lv_iload hx hb dX9_costly_41 (lv_at hl 4 rfl) ?_
          refine lv_goto (tgt := 47) hx hb dX9_costly_43 (by decide) ?_
          exact blk47 _ _ now aside y0 x3 x4 ls hP hS (lv_sub hl [1, 0, 3] rfl) hf
      intro H locs now aside x1 x2 x3 ls hP hS hl hf
      rw [fX9_costly_11] at hf
      refine lv_iload_n hx hb dX9_costly_11 rfl (lv_at hl 3 rfl) ?_
      refine lv_iconst (v := (-1 : Int32)) hx hb dX9_costly_12 (by decide) ?_
      refine lv_icmp_eq (tgt := 58) hx hb dX9_costly_13 (by decide) (fun hc2 => ?_) (fun hc2 => ?_)
      · rw [if_pos hc2] at hf
        refine lv_iload_n hx hb dX9_costly_58 rfl (lv_at hl 1 rfl) ?_
        have e0 := Option.some.inj hf
        subst e0
        exact hret _ _ _ _ hP hS dX9_costly_59
      · rw [if_neg hc2] at hf
        refine lv_aload_n hx hb dX9_costly_16 rfl (lv_at hl 0 rfl) ?_
        refine lv_iload_n hx hb dX9_costly_17 rfl (lv_at hl 3 rfl) ?_
        obtain ⟨q3, hq3, hf⟩ := obE hf
        refine ct_cVi (rest := []) (tX9_costs hD hq3) hx hb hml hown ht hX hP hS wX9_costs kML_RX9_143 rfl rfl ⟨Nat.le_of_ble_eq_true rfl, Nat.le_of_ble_eq_true rfl⟩ (va_recv hX.1 hP rfl mw_obj) rfl hl.1 rfl (Nat.le_of_ble_eq_true rfl) dX9_costly_18 (fun H locs hP hS => ?_)
        refine lv_istore (lv' := [(4, .int q3.1), (0, .ref (ad 0)), (1, .int x1), (2, .int x2), (3, .int x3)]) hx hb dX9_costly_21 hl (by decide) rfl (fun ls hl => ?_)
        refine lv_iload hx hb dX9_costly_23 (lv_at hl 0 rfl) ?_
        refine lv_iload_n hx hb dX9_costly_25 rfl (lv_at hl 3 rfl) ?_
        refine lv_icmp_le (tgt := 33) hx hb dX9_costly_26 (by decide) (fun hc4 => ?_) (fun hc4 => ?_)
        · rw [if_pos hc4] at hf
          refine lv_iload_n hx hb dX9_costly_33 rfl (lv_at hl 2 rfl) ?_
          exact blk34 _ _ q3.2.1 q3.2.2 x2 x3 q3.1 x1 ls hP hS (lv_sub hl [1, 3, 4, 0] rfl) hf
        · rw [if_neg hc4] at hf
          refine lv_iload_n hx hb dX9_costly_29 rfl (lv_at hl 4 rfl) ?_
          refine lv_goto (tgt := 34) hx hb dX9_costly_30 (by decide) ?_
          exact blk34 _ _ q3.2.1 q3.2.2 x2 x3 q3.1 x3 ls hP hS (lv_sub hl [1, 3, 4, 0] rfl) hf
  unfold fX9_costly at hf
  refine lv_iconst (v := (-1 : Int32)) hx hb dX9_costly_0 (by decide) ?_
  refine lv_istore_n (lv' := [(1, .int ((-1 : Int32))), (0, .ref (ad 0))]) hx hb dX9_costly_1 rfl hl (by decide) rfl (fun ls hl => ?_)
  refine lv_iconst (v := (-1 : Int32)) hx hb dX9_costly_2 (by decide) ?_
  refine lv_istore_n (lv' := [(2, .int ((-1 : Int32))), (1, .int ((-1 : Int32))), (0, .ref (ad 0))]) hx hb dX9_costly_3 rfl hl (by decide) rfl (fun ls hl => ?_)
  refine lv_aload_n hx hb dX9_costly_4 rfl (lv_at hl 2 rfl) ?_
  refine lv_iconst (v := (-1 : Int32)) hx hb dX9_costly_5 (by decide) ?_
  refine lv_iconst (v := (0 : Int32)) hx hb dX9_costly_6 (by decide) ?_
  obtain ⟨q1, hq1, hf⟩ := obE hf
  refine ct_cVi (rest := []) (tX9_besideOf hD hq1) hx hb hml hown ht hX hP hS wX9_besideOf kML_RX9_140 rfl rfl ⟨Nat.le_of_ble_eq_true rfl, Nat.le_of_ble_eq_true rfl⟩ (va_recv hX.1 hP rfl mw_obj) rfl hl.1 rfl (Nat.le_of_ble_eq_true rfl) dX9_costly_7 (fun H locs hP hS => ?_)
  refine lv_istore_n (lv' := [(3, .int q1), (2, .int ((-1 : Int32))), (1, .int ((-1 : Int32))), (0, .ref (ad 0))]) hx hb dX9_costly_10 rfl hl (by decide) rfl (fun ls hl => ?_)
  exact blk11 F _ _ now aside (-1 : Int32) (-1 : Int32) q1 ls hP hS (lv_sub hl [3, 2, 1, 0] rfl) hf
def fX9_flat_2 (F : Nat) (now : Nat → Int32) : Nat → Int32 → Option (Int32)
  | 0, _ => none
  | n + 1, x1 => (fX9_many F now).bind fun q1 => (if q1 ≤ (((1 : Int32) <<< (x1 &&& 31)) - (1 : Int32)) then (some x1) else (fX9_flat_2 F now n (x1 + (1 : Int32))))
def fX9_flat (F : Nat) (now : Nat → Int32) : Option (Int32) := fX9_flat_2 F now F (0 : Int32)
abbrev rX9_flat : Room := { frames := 1, cells := 0, slots := 0, locals := 20 }
theorem wX9_flat : kV yX9_flat cX9_flat 2 (some .int) 0 := ⟨kCO_yX9_flat, kIM_yX9_flat, kSE_yX9_flat, kIN_RX9, by decide +kernel, by decide +kernel, by decide +kernel⟩
set_option maxHeartbeats 4000000 in
set_option maxRecDepth 100000 in
theorem tX9_flat {l : Launch} {D : va_G} {cI cZ : ClassId} {ad : Nat → Nat} (hD : gInj 15 ad) {F : Nat} {un sd : Int32} {now past images iseed kept order numof above pile aside fewest deep keys worths : Nat → Int32} {res : Int32} (hf : fX9_flat F now = some res) : CTi l yX9_flat cX9_flat 2 .int rX9_flat D (mTy cI cZ) (gA 15 ad) [.ref (ad 0)] (mw cI cZ ad un sd now past images iseed kept order numof above pile aside fewest deep keys worths) res (mw cI cZ ad un sd now past images iseed kept order numof above pile aside fewest deep keys worths) := by
  refine ct_int (by decide) (Nat.le_of_ble_eq_true rfl) ?_
  intro p e s m args below meth c Q ls hx hb hml hown ht hX hret hP hS hl
  have hl : lv_has ls 2 [(0, .ref (ad 0))] := hl
  have blk2 : ∀ (n2 : Nat) (H : Heap) (locs : List Loc) (x1 : Int32) (ls : Array Slot), va_P D vwCl (mw cI cZ ad un sd now past images iseed kept order numof above pile aside fewest deep keys worths) H → va_S (gA 15 ad) s.heap H locs → lv_has ls 2 [(0, .ref (ad 0)), (1, .int x1)] → fX9_flat_2 F now n2 x1 = some res → W p l e rX9_flat s m args below meth c H locs 0 0 Q (F0 m 2 ls []) := by
    intro n2
    induction n2 with
    | zero =>
      intro H locs x1 ls hP hS hl hf
      rw [fX9_flat_2] at hf
      cases hf
    | succ n2 ih2 =>
      skip
      intro H locs x1 ls hP hS hl hf
      rw [fX9_flat_2] at hf
      refine lv_iconst (v := (1 : Int32)) hx hb dX9_flat_2 (by decide) ?_
      refine lv_iload_n hx hb dX9_flat_3 rfl (lv_at hl 1 rfl) ?_
      refine lv_ishl hx hb dX9_flat_4 ?_
      refine lv_iconst (v := (1 : Int32)) hx hb dX9_flat_5 (by decide) ?_
      refine lv_isub hx hb dX9_flat_6 ?_
      refine lv_aload_n hx hb dX9_flat_7 rfl (lv_at hl 0 rfl) ?_
      obtain ⟨q1, hq1, hf⟩ := obE hf
      refine ct_cVi (rest := [.int (((1 : Int32) <<< (x1 &&& 31)) - (1 : Int32))]) (tX9_many hD hq1) hx hb hml hown ht hX hP hS wX9_many kML_RX9_128 rfl rfl ⟨Nat.le_of_ble_eq_true rfl, Nat.le_of_ble_eq_true rfl⟩ (va_recv hX.1 hP rfl mw_obj) rfl hl.1 rfl (Nat.le_of_ble_eq_true rfl) dX9_flat_8 (fun H locs hP hS => ?_)
      refine lv_icmp_ge (tgt := 20) hx hb dX9_flat_11 (by decide) (fun hc2 => ?_) (fun hc2 => ?_)
      · rw [if_pos hc2] at hf
        refine lv_iload_n hx hb dX9_flat_20 rfl (lv_at hl 1 rfl) ?_
        have e0 := Option.some.inj hf
        subst e0
        exact hret _ _ _ _ hP hS dX9_flat_21
      · rw [if_neg hc2] at hf
        refine lv_iinc (v := x1 + (1 : Int32)) (lv' := [(1, .int (x1 + (1 : Int32))), (0, .ref (ad 0))]) hx hb dX9_flat_14 hl (k := 1) rfl rfl (by decide) rfl (fun ls hl => ?_)
        refine lv_goto (tgt := 2) hx hb dX9_flat_17 (by decide) ?_
        exact ih2 _ _ (x1 + (1 : Int32)) ls hP hS (lv_sub hl [1, 0] rfl) hf
  unfold fX9_flat at hf
  refine lv_iconst (v := (0 : Int32)) hx hb dX9_flat_0 (by decide) ?_
  refine lv_istore_n (lv' := [(1, .int ((0 : Int32))), (0, .ref (ad 0))]) hx hb dX9_flat_1 rfl hl (by decide) rfl (fun ls hl => ?_)
  exact blk2 F _ _ (0 : Int32) ls hP hS (lv_sub hl [1, 0] rfl) hf
def fX9_lesser (F : Nat) (x0 : Int32) (x1 : Int32) : Option (Int32) := if x1 ≤ x0 then (some x1) else (some x0)
abbrev rX9_lesser : Room := { frames := 0, cells := 0, slots := 0, locals := 0 }
theorem wX9_lesser : kF yX9_lesser cX9_lesser 2 (some .int) 2 := ⟨kCO_yX9_lesser, kSM_yX9_lesser, kIN_RX9, by decide +kernel, by decide +kernel, by decide +kernel⟩
set_option maxHeartbeats 4000000 in
set_option maxRecDepth 100000 in
theorem tX9_lesser {l : Launch} {D : va_G} {cI cZ : ClassId} {ad : Nat → Nat} (hD : gInj 15 ad) {F : Nat} {un sd : Int32} {now past images iseed kept order numof above pile aside fewest deep keys worths : Nat → Int32} {x0 : Int32} {x1 : Int32} {res : Int32} (hf : fX9_lesser F x0 x1 = some res) : CTi l yX9_lesser cX9_lesser 2 .int rX9_lesser D (mTy cI cZ) (gA 15 ad) [.int x0, .int x1] (mw cI cZ ad un sd now past images iseed kept order numof above pile aside fewest deep keys worths) res (mw cI cZ ad un sd now past images iseed kept order numof above pile aside fewest deep keys worths) := by
  refine ct_int (by decide) (Nat.le_of_ble_eq_true rfl) ?_
  intro p e s m args below meth c Q ls hx hb hml hown ht hX hret hP hS hl
  have hl : lv_has ls 2 [(0, .int x0), (1, .int x1)] := hl
  unfold fX9_lesser at hf
  refine lv_iload_n hx hb dX9_lesser_0 rfl (lv_at hl 0 rfl) ?_
  refine lv_iload_n hx hb dX9_lesser_1 rfl (lv_at hl 1 rfl) ?_
  refine lv_icmp_ge (tgt := 9) hx hb dX9_lesser_2 (by decide) (fun hc1 => ?_) (fun hc1 => ?_)
  · rw [if_pos hc1] at hf
    refine lv_iload_n hx hb dX9_lesser_9 rfl (lv_at hl 1 rfl) ?_
    have e0 := Option.some.inj hf
    subst e0
    exact hret _ _ _ _ hP hS dX9_lesser_10
  · rw [if_neg hc1] at hf
    refine lv_iload_n hx hb dX9_lesser_5 rfl (lv_at hl 0 rfl) ?_
    refine lv_goto (tgt := 10) hx hb dX9_lesser_6 (by decide) ?_
    have e0 := Option.some.inj hf
    subst e0
    exact hret _ _ _ _ hP hS dX9_lesser_10
