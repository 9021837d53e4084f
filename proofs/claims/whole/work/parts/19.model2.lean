def fX9_tall_220 (F : Nat) (now : Nat → Int32) (k87 : (Nat → Int32) → (Nat → Int32) → Int32 → Int32 → Option (Int32 × (Nat → Int32) × (Nat → Int32))) (k100 : (Nat → Int32) → (Nat → Int32) → Int32 → Int32 → Int32 → Int32 → Option (Int32 × (Nat → Int32) × (Nat → Int32))) (fewest : Nat → Int32) (deep : Nat → Int32) (x1 : Int32) (x2 : Int32) (x3 : Int32) (x4 : Int32) (y0 : Int32) : Option (Int32 × (Nat → Int32) × (Nat → Int32)) := (fX9_lesser F y0 (1000 : Int32)).bind fun q26 => (if (((32 : Int32) * x2) + x4) < 0 ∨ 640 ≤ (((32 : Int32) * x2) + x4).toNatClampNeg then none else (if (((32 : Int32) * x2) + x4) < 0 ∨ 640 ≤ (((32 : Int32) * x2) + x4).toNatClampNeg then none else ((fX9_lesser F x3 ((upd deep (((32 : Int32) * x2) + x4).toNatClampNeg q26) (((32 : Int32) * x2) + x4).toNatClampNeg)).bind fun q29 => (k100 fewest (upd deep (((32 : Int32) * x2) + x4).toNatClampNeg q26) x1 x2 q29 (x4 + (1 : Int32))))))
def fX9_tall_213 (F : Nat) (now : Nat → Int32) (k87 : (Nat → Int32) → (Nat → Int32) → Int32 → Int32 → Option (Int32 × (Nat → Int32) × (Nat → Int32))) (k100 : (Nat → Int32) → (Nat → Int32) → Int32 → Int32 → Int32 → Int32 → Option (Int32 × (Nat → Int32) × (Nat → Int32))) (fewest : Nat → Int32) (deep : Nat → Int32) (x1 : Int32) (x2 : Int32) (x3 : Int32) (x4 : Int32) (x5 : Int32) (x6 : Int32) : Option (Int32 × (Nat → Int32) × (Nat → Int32)) := fX9_tall_220 F now k87 k100 fewest deep x1 x2 x3 x4 (((1 : Int32) + x5) + x6)
def fX9_tall_197 (F : Nat) (now : Nat → Int32) (k87 : (Nat → Int32) → (Nat → Int32) → Int32 → Int32 → Option (Int32 × (Nat → Int32) × (Nat → Int32))) (k100 : (Nat → Int32) → (Nat → Int32) → Int32 → Int32 → Int32 → Int32 → Option (Int32 × (Nat → Int32) × (Nat → Int32))) (fewest : Nat → Int32) (deep : Nat → Int32) (x1 : Int32) (x2 : Int32) (x3 : Int32) (x4 : Int32) (x5 : Int32) (y0 : Int32) : Option (Int32 × (Nat → Int32) × (Nat → Int32)) := if x2 = (1 : Int32) then (if x4 = 0 then (fX9_tall_220 F now k87 k100 fewest deep x1 x2 x3 x4 (1 : Int32)) else (fX9_tall_213 F now k87 k100 fewest deep x1 x2 x3 x4 x5 y0)) else (fX9_tall_213 F now k87 k100 fewest deep x1 x2 x3 x4 x5 y0)
def fX9_tall_176 (F : Nat) (now : Nat → Int32) (k87 : (Nat → Int32) → (Nat → Int32) → Int32 → Int32 → Option (Int32 × (Nat → Int32) × (Nat → Int32))) (k100 : (Nat → Int32) → (Nat → Int32) → Int32 → Int32 → Int32 → Int32 → Option (Int32 × (Nat → Int32) × (Nat → Int32))) (fewest : Nat → Int32) (deep : Nat → Int32) (x1 : Int32) (x2 : Int32) (x3 : Int32) (x4 : Int32) (y0 : Int32) : Option (Int32 × (Nat → Int32) × (Nat → Int32)) := if x4 ≤ (1 : Int32) then (fX9_tall_197 F now k87 k100 fewest deep x1 x2 x3 x4 y0 (0 : Int32)) else (if (x4 - (1 : Int32)) < 0 ∨ 32 ≤ (x4 - (1 : Int32)).toNatClampNeg then none else (fX9_tall_197 F now k87 k100 fewest deep x1 x2 x3 x4 y0 (fewest (x4 - (1 : Int32)).toNatClampNeg)))
def fX9_tall_173 (F : Nat) (now : Nat → Int32) (k87 : (Nat → Int32) → (Nat → Int32) → Int32 → Int32 → Option (Int32 × (Nat → Int32) × (Nat → Int32))) (k100 : (Nat → Int32) → (Nat → Int32) → Int32 → Int32 → Int32 → Int32 → Option (Int32 × (Nat → Int32) × (Nat → Int32))) (fewest : Nat → Int32) (deep : Nat → Int32) (x1 : Int32) (x2 : Int32) (x3 : Int32) (x4 : Int32) (y0 : Int32) (y1 : Int32) : Option (Int32 × (Nat → Int32) × (Nat → Int32)) := (fX9_lesser F y0 y1).bind fun q23 => (fX9_tall_176 F now k87 k100 fewest deep x1 x2 x3 x4 q23)
def fX9_tall_145 (F : Nat) (now : Nat → Int32) (k87 : (Nat → Int32) → (Nat → Int32) → Int32 → Int32 → Option (Int32 × (Nat → Int32) × (Nat → Int32))) (k100 : (Nat → Int32) → (Nat → Int32) → Int32 → Int32 → Int32 → Int32 → Option (Int32 × (Nat → Int32) × (Nat → Int32))) (fewest : Nat → Int32) (deep : Nat → Int32) (x1 : Int32) (x2 : Int32) (x3 : Int32) (x4 : Int32) (y0 : Int32) : Option (Int32 × (Nat → Int32) × (Nat → Int32)) := if x4 ≤ (1 : Int32) then (fX9_tall_173 F now k87 k100 fewest deep x1 x2 x3 x4 y0 (1000 : Int32)) else (if ((((32 : Int32) * (x2 - (1 : Int32))) + x4) - (2 : Int32)) < 0 ∨ 640 ≤ ((((32 : Int32) * (x2 - (1 : Int32))) + x4) - (2 : Int32)).toNatClampNeg then none else (fX9_tall_173 F now k87 k100 fewest deep x1 x2 x3 x4 y0 (deep ((((32 : Int32) * (x2 - (1 : Int32))) + x4) - (2 : Int32)).toNatClampNeg)))
def fX9_tall_100 (F : Nat) (now : Nat → Int32) (k87 : (Nat → Int32) → (Nat → Int32) → Int32 → Int32 → Option (Int32 × (Nat → Int32) × (Nat → Int32))) : Nat → (Nat → Int32) → (Nat → Int32) → Int32 → Int32 → Int32 → Int32 → Option (Int32 × (Nat → Int32) × (Nat → Int32))
  | 0, _, _, _, _, _, _ => none
  | n + 1, fewest, deep, x1, x2, x3, x4 => if (30 : Int32) ≤ x4 then ((fX9_many F now).bind fun q14 => (if q14 < x3 then (k87 fewest deep x1 (x2 + (1 : Int32))) else (k87 fewest deep x2 (x2 + (1 : Int32))))) else (if x2 = (1 : Int32) then (fX9_tall_176 F now k87 (fun fewest deep x1 x2 x3 x4 => fX9_tall_100 F now k87 n fewest deep x1 x2 x3 x4) fewest deep x1 x2 x3 x4 (1000 : Int32)) else (if x4 ≤ 0 then (fX9_tall_145 F now k87 (fun fewest deep x1 x2 x3 x4 => fX9_tall_100 F now k87 n fewest deep x1 x2 x3 x4) fewest deep x1 x2 x3 x4 (1000 : Int32)) else (if ((((32 : Int32) * (x2 - (1 : Int32))) + x4) - (1 : Int32)) < 0 ∨ 640 ≤ ((((32 : Int32) * (x2 - (1 : Int32))) + x4) - (1 : Int32)).toNatClampNeg then none else (fX9_tall_145 F now k87 (fun fewest deep x1 x2 x3 x4 => fX9_tall_100 F now k87 n fewest deep x1 x2 x3 x4) fewest deep x1 x2 x3 x4 (deep ((((32 : Int32) * (x2 - (1 : Int32))) + x4) - (1 : Int32)).toNatClampNeg)))))
def fX9_tall_87 (F : Nat) (now : Nat → Int32) : Nat → (Nat → Int32) → (Nat → Int32) → Int32 → Int32 → Option (Int32 × (Nat → Int32) × (Nat → Int32))
  | 0, _, _, _, _ => none
  | n + 1, fewest, deep, x1, x2 => if (20 : Int32) ≤ x2 then (some (x1, fewest, deep)) else (fX9_tall_100 F now (fun fewest deep x1 x2 => fX9_tall_87 F now n fewest deep x1 x2) F fewest deep x1 x2 (1000 : Int32) (0 : Int32))
def fX9_tall_23 (F : Nat) (now : Nat → Int32) : Nat → (Nat → Int32) → (Nat → Int32) → Int32 → Option (Int32 × (Nat → Int32) × (Nat → Int32))
  | 0, _, _, _ => none
  | n + 1, fewest, deep, x1 => if (32 : Int32) ≤ x1 then (fX9_tall_87 F now F fewest deep (0 : Int32) (1 : Int32)) else (if (x1 - (2 : Int32)) < 0 ∨ 32 ≤ (x1 - (2 : Int32)).toNatClampNeg then none else (if x1 < 0 ∨ 32 ≤ x1.toNatClampNeg then none else (if x1 < 0 ∨ 32 ≤ x1.toNatClampNeg then none else (if ((upd fewest x1.toNatClampNeg ((1 : Int32) + ((2 : Int32) * (fewest (x1 - (2 : Int32)).toNatClampNeg)))) x1.toNatClampNeg) ≤ (1000 : Int32) then (if x1 < 0 ∨ 32 ≤ x1.toNatClampNeg then none else (if x1 < 0 ∨ 32 ≤ x1.toNatClampNeg then none else (fX9_tall_23 F now n (upd (upd fewest x1.toNatClampNeg ((1 : Int32) + ((2 : Int32) * (fewest (x1 - (2 : Int32)).toNatClampNeg)))) x1.toNatClampNeg ((upd fewest x1.toNatClampNeg ((1 : Int32) + ((2 : Int32) * (fewest (x1 - (2 : Int32)).toNatClampNeg)))) x1.toNatClampNeg)) deep (x1 + (1 : Int32))))) else (if x1 < 0 ∨ 32 ≤ x1.toNatClampNeg then none else (fX9_tall_23 F now n (upd (upd fewest x1.toNatClampNeg ((1 : Int32) + ((2 : Int32) * (fewest (x1 - (2 : Int32)).toNatClampNeg)))) x1.toNatClampNeg (1000 : Int32)) deep (x1 + (1 : Int32))))))))
def fX9_tall (F : Nat) (now : Nat → Int32) (fewest : Nat → Int32) (deep : Nat → Int32) : Option (Int32 × (Nat → Int32) × (Nat → Int32)) := if (0 : Int32) < 0 ∨ 32 ≤ (0 : Int32).toNatClampNeg then none else (if (1 : Int32) < 0 ∨ 32 ≤ (1 : Int32).toNatClampNeg then none else (if (2 : Int32) < 0 ∨ 32 ≤ (2 : Int32).toNatClampNeg then none else (fX9_tall_23 F now F (upd (upd (upd fewest (0 : Int32).toNatClampNeg (0 : Int32)) (1 : Int32).toNatClampNeg (1 : Int32)) (2 : Int32).toNatClampNeg (2 : Int32)) deep (3 : Int32))))
abbrev rX9_tall : Room := { frames := 1, cells := 0, slots := 0, locals := 21 }
theorem wX9_tall : kV yX9_tall cX9_tall 8 (some .int) 0 := ⟨kCO_yX9_tall, kIM_yX9_tall, kSE_yX9_tall, kIN_RX9, by decide +kernel, by decide +kernel, by decide +kernel⟩
set_option maxHeartbeats 4000000 in
set_option maxRecDepth 100000 in
theorem tX9_tall {l : Launch} {D : va_G} {cI cZ : ClassId} {ad : Nat → Nat} (hD : gInj 15 ad) {F : Nat} {un sd : Int32} {now past images iseed kept order numof above pile aside fewest deep keys worths : Nat → Int32} {res : Int32 × (Nat → Int32) × (Nat → Int32)} (hf : fX9_tall F now fewest deep = some res) : CTi l yX9_tall cX9_tall 8 .int rX9_tall D (mTy cI cZ) (gA 15 ad) [.ref (ad 0)] (mw cI cZ ad un sd now past images iseed kept order numof above pile aside fewest deep keys worths) res.1 (mw cI cZ ad un sd now past images iseed kept order numof above pile aside res.2.1 res.2.2 keys worths) := by
  refine ct_int (by decide) (Nat.le_of_ble_eq_true rfl) ?_
  intro p e s m args below meth c Q ls hx hb hml hown ht hX hret hP hS hl
  have hl : lv_has ls 8 [(0, .ref (ad 0))] := hl
  have blk87 : ∀ (n87 : Nat) (H : Heap) (locs : List Loc) (fewest : Nat → Int32) (deep : Nat → Int32) (x1 : Int32) (x2 : Int32) (ls : Array Slot), va_P D vwCl (mw cI cZ ad un sd now past images iseed kept order numof above pile aside fewest deep keys worths) H → va_S (gA 15 ad) s.heap H locs → lv_has ls 8 [(0, .ref (ad 0)), (1, .int x1), (2, .int x2)] → fX9_tall_87 F now n87 fewest deep x1 x2 = some res → W p l e rX9_tall s m args below meth c H locs 0 0 Q (F0 m 87 ls []) := by
    intro n87
    induction n87 with
    | zero =>
      intro H locs fewest deep x1 x2 ls hP hS hl hf
      rw [fX9_tall_87] at hf
      cases hf
    | succ n87 ih87 =>
      skip
      have blk100 : ∀ (n100 : Nat) (H : Heap) (locs : List Loc) (fewest : Nat → Int32) (deep : Nat → Int32) (x1 : Int32) (x2 : Int32) (x3 : Int32) (x4 : Int32) (ls : Array Slot), va_P D vwCl (mw cI cZ ad un sd now past images iseed kept order numof above pile aside fewest deep keys worths) H → va_S (gA 15 ad) s.heap H locs → lv_has ls 8 [(0, .ref (ad 0)), (1, .int x1), (2, .int x2), (3, .int x3), (4, .int x4)] → fX9_tall_100 F now (fun fewest deep x1 x2 => fX9_tall_87 F now n87 fewest deep x1 x2) n100 fewest deep x1 x2 x3 x4 = some res → W p l e rX9_tall s m args below meth c H locs 0 0 Q (F0 m 100 ls []) := by
        intro n100
        induction n100 with
        | zero =>
          intro H locs fewest deep x1 x2 x3 x4 ls hP hS hl hf
          rw [fX9_tall_100] at hf
          cases hf
        | succ n100 ih100 =>
          skip
          have blk220 : ∀ (H : Heap) (locs : List Loc) (fewest : Nat → Int32) (deep : Nat → Int32) (x1 : Int32) (x2 : Int32) (x3 : Int32) (x4 : Int32) (y0 : Int32) (ls : Array Slot), va_P D vwCl (mw cI cZ ad un sd now past images iseed kept order numof above pile aside fewest deep keys worths) H → va_S (gA 15 ad) s.heap H locs → lv_has ls 8 [(0, .ref (ad 0)), (1, .int x1), (2, .int x2), (3, .int x3), (4, .int x4)] → fX9_tall_220 F now (fun fewest deep x1 x2 => fX9_tall_87 F now n87 fewest deep x1 x2) (fun fewest deep x1 x2 x3 x4 => fX9_tall_100 F now (fun fewest deep x1 x2 => fX9_tall_87 F now n87 fewest deep x1 x2) n100 fewest deep x1 x2 x3 x4) fewest deep x1 x2 x3 x4 y0 = some res → W p l e rX9_tall s m args below meth c H locs 0 0 Q (F0 m 220 ls [.int y0]) := by
            intro H locs fewest deep x1 x2 x3 x4 y0 ls hP hS hl hf
            unfold fX9_tall_220 at hf
            refine lv_istore (lv' := [(7, .int y0), (0, .ref (ad 0)), (1, .int x1), (2, .int x2), (3, .int x3), (4, .int x4)]) hx hb dX9_tall_220 hl (by decide) rfl (fun ls hl => ?_)
            refine lv_aload_n hx hb dX9_tall_222 rfl (lv_at hl 1 rfl) ?_
            refine va_get (ci := 7) (v := .ref (ad 12)) hx hb ht i_X9 hown hX.1 hP 0 mw_obj rfl 13 (by decide) (ht _ kFL_RX9_44) (fun _ h9 => h9) rfl dX9_tall_223 ?_
            refine lv_bipush (v := (32 : Int32)) hx hb dX9_tall_226 (by decide) ?_
            refine lv_iload_n hx hb dX9_tall_228 rfl (lv_at hl 3 rfl) ?_
            refine lv_imul hx hb dX9_tall_229 ?_
            refine lv_iload hx hb dX9_tall_230 (lv_at hl 5 rfl) ?_
            refine lv_iadd hx hb dX9_tall_232 ?_
            refine lv_iload hx hb dX9_tall_233 (lv_at hl 0 rfl) ?_
            refine lv_sipush (v := (1000 : Int32)) hx hb dX9_tall_235 (by decide) ?_
            obtain ⟨q26, hq26, hf⟩ := obE hf
            refine ct_cSi (rest := [.int (((32 : Int32) * x2) + x4), .ref (ad 12)]) (tX9_lesser hD hq26) hx hb hml hown ht hX hP hS wX9_lesser kML_RX9_146 rfl rfl ⟨Nat.le_of_ble_eq_true rfl, Nat.le_of_ble_eq_true rfl⟩ rfl hl.1 rfl (Nat.le_of_ble_eq_true rfl) dX9_tall_238 (fun H locs hP hS => ?_)
            obtain ⟨hn27, hf⟩ := ngE _ hf
            refine va_iast hx hb hX.1 hP (gw_D hD _) hS 12 0 mw_deep rfl hn27 dX9_tall_241 (fun H locs hP _ hS => ?_)
            rw [mw_set_deep] at hP
            refine lv_iload_n hx hb dX9_tall_242 rfl (lv_at hl 4 rfl) ?_
            refine lv_aload_n hx hb dX9_tall_243 rfl (lv_at hl 1 rfl) ?_
            refine va_get (ci := 7) (v := .ref (ad 12)) hx hb ht i_X9 hown hX.1 hP 0 mw_obj rfl 13 (by decide) (ht _ kFL_RX9_44) (fun _ h9 => h9) rfl dX9_tall_244 ?_
            refine lv_bipush (v := (32 : Int32)) hx hb dX9_tall_247 (by decide) ?_
            refine lv_iload_n hx hb dX9_tall_249 rfl (lv_at hl 3 rfl) ?_
            refine lv_imul hx hb dX9_tall_250 ?_
            refine lv_iload hx hb dX9_tall_251 (lv_at hl 5 rfl) ?_
            refine lv_iadd hx hb dX9_tall_253 ?_
            obtain ⟨hn28, hf⟩ := ngE _ hf
            refine va_iald hx hb hX.1 hP 12 0 mw_deep rfl hn28 dX9_tall_254 ?_
            obtain ⟨q29, hq29, hf⟩ := obE hf
            refine ct_cSi (rest := []) (tX9_lesser hD hq29) hx hb hml hown ht hX hP hS wX9_lesser kML_RX9_146 rfl rfl ⟨Nat.le_of_ble_eq_true rfl, Nat.le_of_ble_eq_true rfl⟩ rfl hl.1 rfl (Nat.le_of_ble_eq_true rfl) dX9_tall_255 (fun H locs hP hS => ?_)
            refine lv_istore_n (lv' := [(3, .int q29), (7, .int y0), (0, .ref (ad 0)), (1, .int x1), (2, .int x2), (4, .int x4)]) hx hb dX9_tall_258 rfl hl (by decide) rfl (fun ls hl => ?_)
            refine lv_iinc (v := x4 + (1 : Int32)) (lv' := [(4, .int (x4 + (1 : Int32))), (3, .int q29), (7, .int y0), (0, .ref (ad 0)), (1, .int x1), (2, .int x2)]) hx hb dX9_tall_259 hl (k := 5) rfl rfl (by decide) rfl (fun ls hl => ?_)
            refine lv_goto (tgt := 100) hx hb dX9_tall_262 (by decide) ?_
            exact ih100 _ _ fewest (upd deep (((32 : Int32) * x2) + x4).toNatClampNeg q26) x1 x2 q29 (x4 + (1 : Int32)) ls hP hS (lv_sub hl [3, 4, 5, 1, 0] rfl) hf
          have blk213 : ∀ (H : Heap) (locs : List Loc) (fewest : Nat → Int32) (deep : Nat → Int32) (x1 : Int32) (x2 : Int32) (x3 : Int32) (x4 : Int32) (x5 : Int32) (x6 : Int32) (ls : Array Slot), va_P D vwCl (mw cI cZ ad un sd now past images iseed kept order numof above pile aside fewest deep keys worths) H → va_S (gA 15 ad) s.heap H locs → lv_has ls 8 [(0, .ref (ad 0)), (1, .int x1), (2, .int x2), (3, .int x3), (4, .int x4), (5, .int x5), (6, .int x6)] → fX9_tall_213 F now (fun fewest deep x1 x2 => fX9_tall_87 F now n87 fewest deep x1 x2) (fun fewest deep x1 x2 x3 x4 => fX9_tall_100 F now (fun fewest deep x1 x2 => fX9_tall_87 F now n87 fewest deep x1 x2) n100 fewest deep x1 x2 x3 x4) fewest deep x1 x2 x3 x4 x5 x6 = some res → W p l e rX9_tall s m args below meth c H locs 0 0 Q (F0 m 213 ls []) := by
            intro H locs fewest deep x1 x2 x3 x4 x5 x6 ls hP hS hl hf
            unfold fX9_tall_213 at hf
            refine lv_iconst (v := (1 : Int32)) hx hb dX9_tall_213 (by decide) ?_
            refine lv_iload hx hb dX9_tall_214 (lv_at hl 5 rfl) ?_
            refine lv_iadd hx hb dX9_tall_216 ?_
            refine lv_iload hx hb dX9_tall_217 (lv_at hl 6 rfl) ?_
            refine lv_iadd hx hb dX9_tall_219 ?_
            exact blk220 _ _ fewest deep x1 x2 x3 x4 (((1 : Int32) + x5) + x6) ls hP hS (lv_sub hl [0, 1, 2, 3, 4] rfl) hf
          have blk197 : ∀ (H : Heap) (locs : List Loc) (fewest : Nat → Int32) (deep : Nat → Int32) (x1 : Int32) (x2 : Int32) (x3 : Int32) (x4 : Int32) (x5 : Int32) (y0 : Int32) (ls : Array Slot), va_P D vwCl (mw cI cZ ad un sd now past images iseed kept order numof above pile aside fewest deep keys worths) H → va_S (gA 15 ad) s.heap H locs → lv_has ls 8 [(0, .ref (ad 0)), (1, .int x1), (2, .int x2), (3, .int x3), (4, .int x4), (5, .int x5)] → fX9_tall_197 F now (fun fewest deep x1 x2 => fX9_tall_87 F now n87 fewest deep x1 x2) (fun fewest deep x1 x2 x3 x4 => fX9_tall_100 F now (fun fewest deep x1 x2 => fX9_tall_87 F now n87 fewest deep x1 x2) n100 fewest deep x1 x2 x3 x4) fewest deep x1 x2 x3 x4 x5 y0 = some res → W p l e rX9_tall s m args below meth c H locs 0 0 Q (F0 m 197 ls [.int y0]) := by
            intro H locs fewest deep x1 x2 x3 x4 x5 y0 ls hP hS hl hf
            unfold fX9_tall_197 at hf
            refine lv_istore (lv' := [(6, .int y0), (0, .ref (ad 0)), (1, .int x1), (2, .int x2), (3, .int x3), (4, .int x4), (5, .int x5)]) hx hb dX9_tall_197 hl (by decide) rfl (fun ls hl => ?_)
            refine lv_iload_n hx hb dX9_tall_199 rfl (lv_at hl 3 rfl) ?_
            refine lv_iconst (v := (1 : Int32)) hx hb dX9_tall_200 (by decide) ?_
            refine lv_icmp_ne (tgt := 213) hx hb dX9_tall_201 (by decide) (fun hc24 => ?_) (fun hc24 => ?_)
            · rw [if_neg hc24] at hf
              exact blk213 _ _ fewest deep x1 x2 x3 x4 x5 y0 ls hP hS (lv_sub hl [1, 2, 3, 4, 5, 6, 0] rfl) hf
            · rw [if_pos hc24] at hf
              refine lv_iload hx hb dX9_tall_204 (lv_at hl 5 rfl) ?_
              refine lv_if_ne (tgt := 213) hx hb dX9_tall_206 (by decide) (fun hc25 => ?_) (fun hc25 => ?_)
              · rw [if_neg hc25] at hf
                exact blk213 _ _ fewest deep x1 x2 x3 x4 x5 y0 ls hP hS (lv_sub hl [1, 2, 3, 4, 5, 6, 0] rfl) hf
              · rw [if_pos hc25] at hf
                refine lv_iconst (v := (1 : Int32)) hx hb dX9_tall_209 (by decide) ?_
                refine lv_goto (tgt := 220) hx hb dX9_tall_210 (by decide) ?_
                exact blk220 _ _ fewest deep x1 x2 x3 x4 (1 : Int32) ls hP hS (lv_sub hl [1, 2, 3, 4, 5] rfl) hf
          have blk176 : ∀ (H : Heap) (locs : List Loc) (fewest : Nat → Int32) (deep : Nat → Int32) (x1 : Int32) (x2 : Int32) (x3 : Int32) (x4 : Int32) (y0 : Int32) (ls : Array Slot), va_P D vwCl (mw cI cZ ad un sd now past images iseed kept order numof above pile aside fewest deep keys worths) H → va_S (gA 15 ad) s.heap H locs → lv_has ls 8 [(0, .ref (ad 0)), (1, .int x1), (2, .int x2), (3, .int x3), (4, .int x4)] → fX9_tall_176 F now (fun fewest deep x1 x2 => fX9_tall_87 F now n87 fewest deep x1 x2) (fun fewest deep x1 x2 x3 x4 => fX9_tall_100 F now (fun fewest deep x1 x2 => fX9_tall_87 F now n87 fewest deep x1 x2) n100 fewest deep x1 x2 x3 x4) fewest deep x1 x2 x3 x4 y0 = some res → W p l e rX9_tall s m args below meth c H locs 0 0 Q (F0 m 176 ls [.int y0]) := by
            intro H locs fewest deep x1 x2 x3 x4 y0 ls hP hS hl hf
            unfold fX9_tall_176 at hf
            refine lv_istore (lv' := [(5, .int y0), (0, .ref (ad 0)), (1, .int x1), (2, .int x2), (3, .int x3), (4, .int x4)]) hx hb dX9_tall_176 hl (by decide) rfl (fun ls hl => ?_)
            refine lv_iload hx hb dX9_tall_178 (lv_at hl 5 rfl) ?_
            refine lv_iconst (v := (1 : Int32)) hx hb dX9_tall_180 (by decide) ?_
            refine lv_icmp_le (tgt := 196) hx hb dX9_tall_181 (by decide) (fun hc21 => ?_) (fun hc21 => ?_)
            · rw [if_pos hc21] at hf
              refine lv_iconst (v := (0 : Int32)) hx hb dX9_tall_196 (by decide) ?_
              exact blk197 _ _ fewest deep x1 x2 x3 x4 y0 (0 : Int32) ls hP hS (lv_sub hl [1, 2, 3, 4, 5, 0] rfl) hf
            · rw [if_neg hc21] at hf
              refine lv_aload_n hx hb dX9_tall_184 rfl (lv_at hl 1 rfl) ?_
              refine va_get (ci := 7) (v := .ref (ad 11)) hx hb ht i_X9 hown hX.1 hP 0 mw_obj rfl 12 (by decide) (ht _ kFL_RX9_41) (fun _ h9 => h9) rfl dX9_tall_185 ?_
              refine lv_iload hx hb dX9_tall_188 (lv_at hl 5 rfl) ?_
              refine lv_iconst (v := (1 : Int32)) hx hb dX9_tall_190 (by decide) ?_
              refine lv_isub hx hb dX9_tall_191 ?_
              obtain ⟨hn22, hf⟩ := ngE _ hf
              refine va_iald hx hb hX.1 hP 11 0 mw_fewest rfl hn22 dX9_tall_192 ?_
              refine lv_goto (tgt := 197) hx hb dX9_tall_193 (by decide) ?_
              exact blk197 _ _ fewest deep x1 x2 x3 x4 y0 (fewest (x4 - (1 : Int32)).toNatClampNeg) ls hP hS (lv_sub hl [1, 2, 3, 4, 5, 0] rfl) hf
          have blk173 : ∀ (H : Heap) (locs : List Loc) (fewest : Nat → Int32) (deep : Nat → Int32) (x1 : Int32) (x2 : Int32) (x3 : Int32) (x4 : Int32) (y0 : Int32) (y1 : Int32) (ls : Array Slot), va_P D vwCl (mw cI cZ ad un sd now past images iseed kept order numof above pile aside fewest deep keys worths) H → va_S (gA 15 ad) s.heap H locs → lv_has ls 8 [(0, .ref (ad 0)), (1, .int x1), (2, .int x2), (3, .int x3), (4, .int x4)] → fX9_tall_173 F now (fun fewest deep x1 x2 => fX9_tall_87 F now n87 fewest deep x1 x2) (fun fewest deep x1 x2 x3 x4 => fX9_tall_100 F now (fun fewest deep x1 x2 => fX9_tall_87 F now n87 fewest deep x1 x2) n100 fewest deep x1 x2 x3 x4) fewest deep x1 x2 x3 x4 y0 y1 = some res → W p l e rX9_tall s m args below meth c H locs 0 0 Q (F0 m 173 ls [.int y1, .int y0]) := by
            intro H locs fewest deep x1 x2 x3 x4 y0 y1 ls hP hS hl hf
            unfold fX9_tall_173 at hf
            obtain ⟨q23, hq23, hf⟩ := obE hf
            refine ct_cSi (rest := []) (tX9_lesser hD hq23) hx hb hml hown ht hX hP hS wX9_lesser kML_RX9_146 rfl rfl ⟨Nat.le_of_ble_eq_true rfl, Nat.le_of_ble_eq_true rfl⟩ rfl hl.1 rfl (Nat.le_of_ble_eq_true rfl) dX9_tall_173 (fun H locs hP hS => ?_)
            exact blk176 _ _ fewest deep x1 x2 x3 x4 q23 ls hP hS (lv_sub hl [0, 1, 2, 3, 4] rfl) hf
          have blk145 : ∀ (H : Heap) (locs : List Loc) (fewest : Nat → Int32) (deep : Nat → Int32) (x1 : Int32) (x2 : Int32) (x3 : Int32) (x4 : Int32) (y0 : Int32) (ls : Array Slot), va_P D vwCl (mw cI cZ ad un sd now past images iseed kept order numof above pile aside fewest deep keys worths) H → va_S (gA 15 ad) s.heap H locs → lv_has ls 8 [(0, .ref (ad 0)), (1, .int x1), (2, .int x2), (3, .int x3), (4, .int x4)] → fX9_tall_145 F now (fun fewest deep x1 x2 => fX9_tall_87 F now n87 fewest deep x1 x2) (fun fewest deep x1 x2 x3 x4 => fX9_tall_100 F now (fun fewest deep x1 x2 => fX9_tall_87 F now n87 fewest deep x1 x2) n100 fewest deep x1 x2 x3 x4) fewest deep x1 x2 x3 x4 y0 = some res → W p l e rX9_tall s m args below meth c H locs 0 0 Q (F0 m 145 ls [.int y0]) := by
            intro H locs fewest deep x1 x2 x3 x4 y0 ls hP hS hl hf
            unfold fX9_tall_145 at hf
            refine lv_iload hx hb dX9_tall_145 (lv_at hl 4 rfl) ?_
            refine lv_iconst (v := (1 : Int32)) hx hb dX9_tall_147 (by decide) ?_
            refine lv_icmp_le (tgt := 170) hx hb dX9_tall_148 (by decide) (fun hc19 => ?_) (fun hc19 => ?_)
            · rw [if_pos hc19] at hf
              refine lv_sipush (v := (1000 : Int32)) hx hb dX9_tall_170 (by decide) ?_
              exact blk173 _ _ fewest deep x1 x2 x3 x4 y0 (1000 : Int32) ls hP hS (lv_sub hl [0, 1, 2, 3, 4] rfl) hf
            · rw [if_neg hc19] at hf
              refine lv_aload_n hx hb dX9_tall_151 rfl (lv_at hl 0 rfl) ?_
              refine va_get (ci := 7) (v := .ref (ad 12)) hx hb ht i_X9 hown hX.1 hP 0 mw_obj rfl 13 (by decide) (ht _ kFL_RX9_44) (fun _ h9 => h9) rfl dX9_tall_152 ?_
              refine lv_bipush (v := (32 : Int32)) hx hb dX9_tall_155 (by decide) ?_
              refine lv_iload_n hx hb dX9_tall_157 rfl (lv_at hl 2 rfl) ?_
              refine lv_iconst (v := (1 : Int32)) hx hb dX9_tall_158 (by decide) ?_
              refine lv_isub hx hb dX9_tall_159 ?_
              refine lv_imul hx hb dX9_tall_160 ?_
              refine lv_iload hx hb dX9_tall_161 (lv_at hl 4 rfl) ?_
              refine lv_iadd hx hb dX9_tall_163 ?_
              refine lv_iconst (v := (2 : Int32)) hx hb dX9_tall_164 (by decide) ?_
              refine lv_isub hx hb dX9_tall_165 ?_
              obtain ⟨hn20, hf⟩ := ngE _ hf
              refine va_iald hx hb hX.1 hP 12 0 mw_deep rfl hn20 dX9_tall_166 ?_
              refine lv_goto (tgt := 173) hx hb dX9_tall_167 (by decide) ?_
              exact blk173 _ _ fewest deep x1 x2 x3 x4 y0 (deep ((((32 : Int32) * (x2 - (1 : Int32))) + x4) - (2 : Int32)).toNatClampNeg) ls hP hS (lv_sub hl [0, 1, 2, 3, 4] rfl) hf
          intro H locs fewest deep x1 x2 x3 x4 ls hP hS hl hf
          rw [fX9_tall_100] at hf
          refine lv_iload hx hb dX9_tall_100 (lv_at hl 4 rfl) ?_
          refine lv_bipush (v := (30 : Int32)) hx hb dX9_tall_102 (by decide) ?_
          refine lv_icmp_ge (tgt := 265) hx hb dX9_tall_104 (by decide) (fun hc13 => ?_) (fun hc13 => ?_)
          · rw [if_pos hc13] at hf
            refine lv_iload_n hx hb dX9_tall_265 rfl (lv_at hl 3 rfl) ?_
            refine lv_aload_n hx hb dX9_tall_266 rfl (lv_at hl 0 rfl) ?_
            obtain ⟨q14, hq14, hf⟩ := obE hf
            refine ct_cVi (rest := [.int x3]) (tX9_many hD hq14) hx hb hml hown ht hX hP hS wX9_many kML_RX9_128 rfl rfl ⟨Nat.le_of_ble_eq_true rfl, Nat.le_of_ble_eq_true rfl⟩ (va_recv hX.1 hP rfl mw_obj) rfl hl.1 rfl (Nat.le_of_ble_eq_true rfl) dX9_tall_267 (fun H locs hP hS => ?_)
            refine lv_icmp_gt (tgt := 277) hx hb dX9_tall_270 (by decide) (fun hc15 => ?_) (fun hc15 => ?_)
            · rw [if_pos hc15] at hf
              refine lv_iload_n hx hb dX9_tall_277 rfl (lv_at hl 1 rfl) ?_
              refine lv_istore_n (lv' := [(1, .int x1), (0, .ref (ad 0)), (2, .int x2), (3, .int x3), (4, .int x4)]) hx hb dX9_tall_278 rfl hl (by decide) rfl (fun ls hl => ?_)
              refine lv_iinc (v := x2 + (1 : Int32)) (lv' := [(2, .int (x2 + (1 : Int32))), (1, .int x1), (0, .ref (ad 0)), (3, .int x3), (4, .int x4)]) hx hb dX9_tall_279 hl (k := 2) rfl rfl (by decide) rfl (fun ls hl => ?_)
              refine lv_goto (tgt := 87) hx hb dX9_tall_282 (by decide) ?_
              exact ih87 _ _ fewest deep x1 (x2 + (1 : Int32)) ls hP hS (lv_sub hl [2, 1, 0] rfl) hf
            · rw [if_neg hc15] at hf
              refine lv_iload_n hx hb dX9_tall_273 rfl (lv_at hl 2 rfl) ?_
              refine lv_goto (tgt := 278) hx hb dX9_tall_274 (by decide) ?_
              refine lv_istore_n (lv' := [(1, .int x2), (0, .ref (ad 0)), (2, .int x2), (3, .int x3), (4, .int x4)]) hx hb dX9_tall_278 rfl hl (by decide) rfl (fun ls hl => ?_)
              refine lv_iinc (v := x2 + (1 : Int32)) (lv' := [(2, .int (x2 + (1 : Int32))), (1, .int x2), (0, .ref (ad 0)), (3, .int x3), (4, .int x4)]) hx hb dX9_tall_279 hl (k := 2) rfl rfl (by decide) rfl (fun ls hl => ?_)
              refine lv_goto (tgt := 87) hx hb dX9_tall_282 (by decide) ?_
              exact ih87 _ _ fewest deep x2 (x2 + (1 : Int32)) ls hP hS (lv_sub hl [2, 1, 0] rfl) hf
          · rw [if_neg hc13] at hf
            refine lv_iload_n hx hb dX9_tall_107 rfl (lv_at hl 2 rfl) ?_
            refine lv_iconst (v := (1 : Int32)) hx hb dX9_tall_108 (by decide) ?_
            refine lv_icmp_ne (tgt := 118) hx hb dX9_tall_109 (by decide) (fun hc16 => ?_) (fun hc16 => ?_)
            · rw [if_neg hc16] at hf
              refine lv_iload hx hb dX9_tall_118 (lv_at hl 4 rfl) ?_
              refine lv_if_le (tgt := 142) hx hb dX9_tall_120 (by decide) (fun hc17 => ?_) (fun hc17 => ?_)
              · rw [if_pos hc17] at hf
                refine lv_sipush (v := (1000 : Int32)) hx hb dX9_tall_142 (by decide) ?_
                exact blk145 _ _ fewest deep x1 x2 x3 x4 (1000 : Int32) ls hP hS (lv_sub hl [0, 1, 2, 3, 4] rfl) hf
              · rw [if_neg hc17] at hf
                refine lv_aload_n hx hb dX9_tall_123 rfl (lv_at hl 0 rfl) ?_
                refine va_get (ci := 7) (v := .ref (ad 12)) hx hb ht i_X9 hown hX.1 hP 0 mw_obj rfl 13 (by decide) (ht _ kFL_RX9_44) (fun _ h9 => h9) rfl dX9_tall_124 ?_
                refine lv_bipush (v := (32 : Int32)) hx hb dX9_tall_127 (by decide) ?_
                refine lv_iload_n hx hb dX9_tall_129 rfl (lv_at hl 2 rfl) ?_
                refine lv_iconst (v := (1 : Int32)) hx hb dX9_tall_130 (by decide) ?_
                refine lv_isub hx hb dX9_tall_131 ?_
                refine lv_imul hx hb dX9_tall_132 ?_
                refine lv_iload hx hb dX9_tall_133 (lv_at hl 4 rfl) ?_
                refine lv_iadd hx hb dX9_tall_135 ?_
                refine lv_iconst (v := (1 : Int32)) hx hb dX9_tall_136 (by decide) ?_
                refine lv_isub hx hb dX9_tall_137 ?_
                obtain ⟨hn18, hf⟩ := ngE _ hf
                refine va_iald hx hb hX.1 hP 12 0 mw_deep rfl hn18 dX9_tall_138 ?_
                refine lv_goto (tgt := 145) hx hb dX9_tall_139 (by decide) ?_
                exact blk145 _ _ fewest deep x1 x2 x3 x4 (deep ((((32 : Int32) * (x2 - (1 : Int32))) + x4) - (1 : Int32)).toNatClampNeg) ls hP hS (lv_sub hl [0, 1, 2, 3, 4] rfl) hf
            · rw [if_pos hc16] at hf
              refine lv_sipush (v := (1000 : Int32)) hx hb dX9_tall_112 (by decide) ?_
              refine lv_goto (tgt := 176) hx hb dX9_tall_115 (by decide) ?_
              exact blk176 _ _ fewest deep x1 x2 x3 x4 (1000 : Int32) ls hP hS (lv_sub hl [0, 1, 2, 3, 4] rfl) hf
      intro H locs fewest deep x1 x2 ls hP hS hl hf
      rw [fX9_tall_87] at hf
      refine lv_iload_n hx hb dX9_tall_87 rfl (lv_at hl 2 rfl) ?_
      refine lv_bipush (v := (20 : Int32)) hx hb dX9_tall_88 (by decide) ?_
      refine lv_icmp_ge (tgt := 285) hx hb dX9_tall_90 (by decide) (fun hc12 => ?_) (fun hc12 => ?_)
      · rw [if_pos hc12] at hf
        refine lv_iload_n hx hb dX9_tall_285 rfl (lv_at hl 1 rfl) ?_
        have e0 := Option.some.inj hf
        subst e0
        exact hret _ _ _ _ hP hS dX9_tall_286
      · rw [if_neg hc12] at hf
        refine lv_sipush (v := (1000 : Int32)) hx hb dX9_tall_93 (by decide) ?_
        refine lv_istore_n (lv' := [(3, .int ((1000 : Int32))), (0, .ref (ad 0)), (1, .int x1), (2, .int x2)]) hx hb dX9_tall_96 rfl hl (by decide) rfl (fun ls hl => ?_)
        refine lv_iconst (v := (0 : Int32)) hx hb dX9_tall_97 (by decide) ?_
        refine lv_istore (lv' := [(4, .int ((0 : Int32))), (3, .int ((1000 : Int32))), (0, .ref (ad 0)), (1, .int x1), (2, .int x2)]) hx hb dX9_tall_98 hl (by decide) rfl (fun ls hl => ?_)
        exact blk100 F _ _ fewest deep x1 x2 (1000 : Int32) (0 : Int32) ls hP hS (lv_sub hl [2, 3, 4, 1, 0] rfl) hf
  have blk23 : ∀ (n23 : Nat) (H : Heap) (locs : List Loc) (fewest : Nat → Int32) (deep : Nat → Int32) (x1 : Int32) (ls : Array Slot), va_P D vwCl (mw cI cZ ad un sd now past images iseed kept order numof above pile aside fewest deep keys worths) H → va_S (gA 15 ad) s.heap H locs → lv_has ls 8 [(0, .ref (ad 0)), (1, .int x1)] → fX9_tall_23 F now n23 fewest deep x1 = some res → W p l e rX9_tall s m args below meth c H locs 0 0 Q (F0 m 23 ls []) := by
    intro n23
    induction n23 with
    | zero =>
      intro H locs fewest deep x1 ls hP hS hl hf
      rw [fX9_tall_23] at hf
      cases hf
    | succ n23 ih23 =>
      skip
      intro H locs fewest deep x1 ls hP hS hl hf
      rw [fX9_tall_23] at hf
      refine lv_iload_n hx hb dX9_tall_23 rfl (lv_at hl 1 rfl) ?_
      refine lv_bipush (v := (32 : Int32)) hx hb dX9_tall_24 (by decide) ?_
      refine lv_icmp_ge (tgt := 83) hx hb dX9_tall_26 (by decide) (fun hc4 => ?_) (fun hc4 => ?_)
      · rw [if_pos hc4] at hf
        refine lv_iconst (v := (0 : Int32)) hx hb dX9_tall_83 (by decide) ?_
        refine lv_istore_n (lv' := [(1, .int ((0 : Int32))), (0, .ref (ad 0))]) hx hb dX9_tall_84 rfl hl (by decide) rfl (fun ls hl => ?_)
        refine lv_iconst (v := (1 : Int32)) hx hb dX9_tall_85 (by decide) ?_
        refine lv_istore_n (lv' := [(2, .int ((1 : Int32))), (1, .int ((0 : Int32))), (0, .ref (ad 0))]) hx hb dX9_tall_86 rfl hl (by decide) rfl (fun ls hl => ?_)
        exact blk87 F _ _ fewest deep (0 : Int32) (1 : Int32) ls hP hS (lv_sub hl [2, 1, 0] rfl) hf
      · rw [if_neg hc4] at hf
        refine lv_aload_n hx hb dX9_tall_29 rfl (lv_at hl 0 rfl) ?_
        refine va_get (ci := 7) (v := .ref (ad 11)) hx hb ht i_X9 hown hX.1 hP 0 mw_obj rfl 12 (by decide) (ht _ kFL_RX9_41) (fun _ h9 => h9) rfl dX9_tall_30 ?_
        refine lv_iload_n hx hb dX9_tall_33 rfl (lv_at hl 1 rfl) ?_
        refine lv_iconst (v := (1 : Int32)) hx hb dX9_tall_34 (by decide) ?_
        refine lv_iconst (v := (2 : Int32)) hx hb dX9_tall_35 (by decide) ?_
        refine lv_aload_n hx hb dX9_tall_36 rfl (lv_at hl 0 rfl) ?_
        refine va_get (ci := 7) (v := .ref (ad 11)) hx hb ht i_X9 hown hX.1 hP 0 mw_obj rfl 12 (by decide) (ht _ kFL_RX9_41) (fun _ h9 => h9) rfl dX9_tall_37 ?_
        refine lv_iload_n hx hb dX9_tall_40 rfl (lv_at hl 1 rfl) ?_
        refine lv_iconst (v := (2 : Int32)) hx hb dX9_tall_41 (by decide) ?_
        refine lv_isub hx hb dX9_tall_42 ?_
        obtain ⟨hn5, hf⟩ := ngE _ hf
        refine va_iald hx hb hX.1 hP 11 0 mw_fewest rfl hn5 dX9_tall_43 ?_
        refine lv_imul hx hb dX9_tall_44 ?_
        refine lv_iadd hx hb dX9_tall_45 ?_
        obtain ⟨hn6, hf⟩ := ngE _ hf
        refine va_iast hx hb hX.1 hP (gw_D hD _) hS 11 0 mw_fewest rfl hn6 dX9_tall_46 (fun H locs hP _ hS => ?_)
        rw [mw_set_fewest] at hP
        refine lv_aload_n hx hb dX9_tall_47 rfl (lv_at hl 0 rfl) ?_
        refine va_get (ci := 7) (v := .ref (ad 11)) hx hb ht i_X9 hown hX.1 hP 0 mw_obj rfl 12 (by decide) (ht _ kFL_RX9_41) (fun _ h9 => h9) rfl dX9_tall_48 ?_
        refine lv_iload_n hx hb dX9_tall_51 rfl (lv_at hl 1 rfl) ?_
        refine lv_aload_n hx hb dX9_tall_52 rfl (lv_at hl 0 rfl) ?_
        refine va_get (ci := 7) (v := .ref (ad 11)) hx hb ht i_X9 hown hX.1 hP 0 mw_obj rfl 12 (by decide) (ht _ kFL_RX9_41) (fun _ h9 => h9) rfl dX9_tall_53 ?_
        refine lv_iload_n hx hb dX9_tall_56 rfl (lv_at hl 1 rfl) ?_
        obtain ⟨hn7, hf⟩ := ngE _ hf
        refine va_iald hx hb hX.1 hP 11 0 mw_fewest rfl hn7 dX9_tall_57 ?_
        refine lv_sipush (v := (1000 : Int32)) hx hb dX9_tall_58 (by decide) ?_
        refine lv_icmp_le (tgt := 70) hx hb dX9_tall_61 (by decide) (fun hc8 => ?_) (fun hc8 => ?_)
        · rw [if_pos hc8] at hf
          refine lv_aload_n hx hb dX9_tall_70 rfl (lv_at hl 0 rfl) ?_
          refine va_get (ci := 7) (v := .ref (ad 11)) hx hb ht i_X9 hown hX.1 hP 0 mw_obj rfl 12 (by decide) (ht _ kFL_RX9_41) (fun _ h9 => h9) rfl dX9_tall_71 ?_
          refine lv_iload_n hx hb dX9_tall_74 rfl (lv_at hl 1 rfl) ?_
          obtain ⟨hn9, hf⟩ := ngE _ hf
          refine va_iald hx hb hX.1 hP 11 0 mw_fewest rfl hn9 dX9_tall_75 ?_
          obtain ⟨hn10, hf⟩ := ngE _ hf
          refine va_iast hx hb hX.1 hP (gw_D hD _) hS 11 0 mw_fewest rfl hn10 dX9_tall_76 (fun H locs hP _ hS => ?_)
          rw [mw_set_fewest] at hP
          refine lv_iinc (v := x1 + (1 : Int32)) (lv' := [(1, .int (x1 + (1 : Int32))), (0, .ref (ad 0))]) hx hb dX9_tall_77 hl (k := 1) rfl rfl (by decide) rfl (fun ls hl => ?_)
          refine lv_goto (tgt := 23) hx hb dX9_tall_80 (by decide) ?_
          exact ih23 _ _ (upd (upd fewest x1.toNatClampNeg ((1 : Int32) + ((2 : Int32) * (fewest (x1 - (2 : Int32)).toNatClampNeg)))) x1.toNatClampNeg ((upd fewest x1.toNatClampNeg ((1 : Int32) + ((2 : Int32) * (fewest (x1 - (2 : Int32)).toNatClampNeg)))) x1.toNatClampNeg)) deep (x1 + (1 : Int32)) ls hP hS (lv_sub hl [1, 0] rfl) hf
        · rw [if_neg hc8] at hf
          refine lv_sipush (v := (1000 : Int32)) hx hb dX9_tall_64 (by decide) ?_
          refine lv_goto (tgt := 76) hx hb dX9_tall_67 (by decide) ?_
          obtain ⟨hn11, hf⟩ := ngE _ hf
          refine va_iast hx hb hX.1 hP (gw_D hD _) hS 11 0 mw_fewest rfl hn11 dX9_tall_76 (fun H locs hP _ hS => ?_)
          rw [mw_set_fewest] at hP
          refine lv_iinc (v := x1 + (1 : Int32)) (lv' := [(1, .int (x1 + (1 : Int32))), (0, .ref (ad 0))]) hx hb dX9_tall_77 hl (k := 1) rfl rfl (by decide) rfl (fun ls hl => ?_)
          refine lv_goto (tgt := 23) hx hb dX9_tall_80 (by decide) ?_
          exact ih23 _ _ (upd (upd fewest x1.toNatClampNeg ((1 : Int32) + ((2 : Int32) * (fewest (x1 - (2 : Int32)).toNatClampNeg)))) x1.toNatClampNeg (1000 : Int32)) deep (x1 + (1 : Int32)) ls hP hS (lv_sub hl [1, 0] rfl) hf
  unfold fX9_tall at hf
  refine lv_aload_n hx hb dX9_tall_0 rfl (lv_at hl 0 rfl) ?_
  refine va_get (ci := 7) (v := .ref (ad 11)) hx hb ht i_X9 hown hX.1 hP 0 mw_obj rfl 12 (by decide) (ht _ kFL_RX9_41) (fun _ h9 => h9) rfl dX9_tall_1 ?_
  refine lv_iconst (v := (0 : Int32)) hx hb dX9_tall_4 (by decide) ?_
  refine lv_iconst (v := (0 : Int32)) hx hb dX9_tall_5 (by decide) ?_
  obtain ⟨hn1, hf⟩ := ngE _ hf
  refine va_iast hx hb hX.1 hP (gw_D hD _) hS 11 0 mw_fewest rfl hn1 dX9_tall_6 (fun H locs hP _ hS => ?_)
  rw [mw_set_fewest] at hP
  refine lv_aload_n hx hb dX9_tall_7 rfl (lv_at hl 0 rfl) ?_
  refine va_get (ci := 7) (v := .ref (ad 11)) hx hb ht i_X9 hown hX.1 hP 0 mw_obj rfl 12 (by decide) (ht _ kFL_RX9_41) (fun _ h9 => h9) rfl dX9_tall_8 ?_
  refine lv_iconst (v := (1 : Int32)) hx hb dX9_tall_11 (by decide) ?_
  refine lv_iconst (v := (1 : Int32)) hx hb dX9_tall_12 (by decide) ?_
  obtain ⟨hn2, hf⟩ := ngE _ hf
  refine va_iast hx hb hX.1 hP (gw_D hD _) hS 11 0 mw_fewest rfl hn2 dX9_tall_13 (fun H locs hP _ hS => ?_)
  rw [mw_set_fewest] at hP
  refine lv_aload_n hx hb dX9_tall_14 rfl (lv_at hl 0 rfl) ?_
  refine va_get (ci := 7) (v := .ref (ad 11)) hx hb ht i_X9 hown hX.1 hP 0 mw_obj rfl 12 (by decide) (ht _ kFL_RX9_41) (fun _ h9 => h9) rfl dX9_tall_15 ?_
  refine lv_iconst (v := (2 : Int32)) hx hb dX9_tall_18 (by decide) ?_
  refine lv_iconst (v := (2 : Int32)) hx hb dX9_tall_19 (by decide) ?_
  obtain ⟨hn3, hf⟩ := ngE _ hf
  refine va_iast hx hb hX.1 hP (gw_D hD _) hS 11 0 mw_fewest rfl hn3 dX9_tall_20 (fun H locs hP _ hS => ?_)
  rw [mw_set_fewest] at hP
  refine lv_iconst (v := (3 : Int32)) hx hb dX9_tall_21 (by decide) ?_
  refine lv_istore_n (lv' := [(1, .int ((3 : Int32))), (0, .ref (ad 0))]) hx hb dX9_tall_22 rfl hl (by decide) rfl (fun ls hl => ?_)
  exact blk23 F _ _ (upd (upd (upd fewest (0 : Int32).toNatClampNeg (0 : Int32)) (1 : Int32).toNatClampNeg (1 : Int32)) (2 : Int32).toNatClampNeg (2 : Int32)) deep (3 : Int32) ls hP hS (lv_sub hl [1, 0] rfl) hf
def fX9_told (F : Nat) (un : Int32) (now : Nat → Int32) (order : Nat → Int32) (numof : Nat → Int32) (above : Nat → Int32) (pile : Nat → Int32) (aside : Nat → Int32) (fewest : Nat → Int32) (deep : Nat → Int32) (x1 : Int32) : Option (Int32 × (Nat → Int32) × (Nat → Int32) × (Nat → Int32) × (Nat → Int32) × (Nat → Int32) × (Nat → Int32) × (Nat → Int32) × (Nat → Int32)) := if x1 = (0 : Int32) then ((fX9_many F now).bind fun q1 => (some (q1, now, order, numof, above, pile, aside, fewest, deep))) else (if x1 = (1 : Int32) then ((fX9_top F now).bind fun q2 => (if q2 = (-1 : Int32) then (some ((-1 : Int32), now, order, numof, above, pile, aside, fewest, deep)) else ((fX9_top F now).bind fun q4 => ((fX9_of F now q4 (0 : Int32)).bind fun q5 => (some (q5, now, order, numof, above, pile, aside, fewest, deep)))))) else (if x1 = (2 : Int32) then ((fX9_top F now).bind fun q6 => ((fX9_rankOf F now q6).bind fun q7 => (some (q7, now, order, numof, above, pile, aside, fewest, deep)))) else (if x1 = (3 : Int32) then ((fX9_depth F now order numof above pile).bind fun q8 => (some (q8.1, now, q8.2.1, q8.2.2.1, q8.2.2.2.1, q8.2.2.2.2, aside, fewest, deep))) else (if x1 = (4 : Int32) then ((fX9_sumOf F now (1 : Int32)).bind fun q9 => (some (q9, now, order, numof, above, pile, aside, fewest, deep))) else (if x1 = (5 : Int32) then (if (((362 : Int32) + x1) - (5 : Int32)) < 0 ∨ 368 ≤ (((362 : Int32) + x1) - (5 : Int32)).toNatClampNeg then none else (some (now (((362 : Int32) + x1) - (5 : Int32)).toNatClampNeg, now, order, numof, above, pile, aside, fewest, deep))) else (if x1 = (6 : Int32) then (if (((362 : Int32) + x1) - (5 : Int32)) < 0 ∨ 368 ≤ (((362 : Int32) + x1) - (5 : Int32)).toNatClampNeg then none else (some (now (((362 : Int32) + x1) - (5 : Int32)).toNatClampNeg, now, order, numof, above, pile, aside, fewest, deep))) else (if x1 = (7 : Int32) then (if (((362 : Int32) + x1) - (5 : Int32)) < 0 ∨ 368 ≤ (((362 : Int32) + x1) - (5 : Int32)).toNatClampNeg then none else (some (now (((362 : Int32) + x1) - (5 : Int32)).toNatClampNeg, now, order, numof, above, pile, aside, fewest, deep))) else (if x1 = (8 : Int32) then (if (((362 : Int32) + x1) - (5 : Int32)) < 0 ∨ 368 ≤ (((362 : Int32) + x1) - (5 : Int32)).toNatClampNeg then none else (some (now (((362 : Int32) + x1) - (5 : Int32)).toNatClampNeg, now, order, numof, above, pile, aside, fewest, deep))) else (if x1 = (9 : Int32) then (if (((362 : Int32) + x1) - (5 : Int32)) < 0 ∨ 368 ≤ (((362 : Int32) + x1) - (5 : Int32)).toNatClampNeg then none else (some (now (((362 : Int32) + x1) - (5 : Int32)).toNatClampNeg, now, order, numof, above, pile, aside, fewest, deep))) else (if x1 = (10 : Int32) then (if (((362 : Int32) + x1) - (5 : Int32)) < 0 ∨ 368 ≤ (((362 : Int32) + x1) - (5 : Int32)).toNatClampNeg then none else (some (now (((362 : Int32) + x1) - (5 : Int32)).toNatClampNeg, now, order, numof, above, pile, aside, fewest, deep))) else (if x1 = (11 : Int32) then ((fX9_sumOf F now (2 : Int32)).bind fun q16 => (some (q16, now, order, numof, above, pile, aside, fewest, deep))) else (if x1 = (12 : Int32) then ((fX9_twos F now).bind fun q17 => (some (q17, now, order, numof, above, pile, aside, fewest, deep))) else (if x1 = (13 : Int32) then ((fX9_costly F now aside).bind fun q18 => (some (q18.1, q18.2.1, order, numof, above, pile, q18.2.2, fewest, deep))) else (if x1 = (14 : Int32) then ((fX9_flat F now).bind fun q19 => (some (q19, now, order, numof, above, pile, aside, fewest, deep))) else (if x1 = (15 : Int32) then ((fX9_tall F now fewest deep).bind fun q20 => (some (q20.1, now, order, numof, above, pile, aside, q20.2.1, q20.2.2))) else (if x1 = (16 : Int32) then (some (un, now, order, numof, above, pile, aside, fewest, deep)) else (some ((-1000000002 : Int32), now, order, numof, above, pile, aside, fewest, deep))))))))))))))))))
abbrev rX9_told : Room := { frames := 8, cells := 0, slots := 0, locals := 195 }
theorem wX9_told : kV yX9_told cX9_told 2 (some .int) 1 := ⟨kCO_yX9_told, kIM_yX9_told, kSE_yX9_told, kIN_RX9, by decide +kernel, by decide +kernel, by decide +kernel⟩
set_option maxHeartbeats 4000000 in
set_option maxRecDepth 100000 in
theorem tX9_told {l : Launch} {D : va_G} {cI cZ : ClassId} {ad : Nat → Nat} (hD : gInj 15 ad) {F : Nat} {un sd : Int32} {now past images iseed kept order numof above pile aside fewest deep keys worths : Nat → Int32} {x1 : Int32} {res : Int32 × (Nat → Int32) × (Nat → Int32) × (Nat → Int32) × (Nat → Int32) × (Nat → Int32) × (Nat → Int32) × (Nat → Int32) × (Nat → Int32)} (hf : fX9_told F un now order numof above pile aside fewest deep x1 = some res) : CTi l yX9_told cX9_told 2 .int rX9_told D (mTy cI cZ) (gA 15 ad) [.ref (ad 0), .int x1] (mw cI cZ ad un sd now past images iseed kept order numof above pile aside fewest deep keys worths) res.1 (mw cI cZ ad un sd res.2.1 past images iseed kept res.2.2.1 res.2.2.2.1 res.2.2.2.2.1 res.2.2.2.2.2.1 res.2.2.2.2.2.2.1 res.2.2.2.2.2.2.2.1 res.2.2.2.2.2.2.2.2 keys worths) := by
  refine ct_int (by decide) (Nat.le_of_ble_eq_true rfl) ?_
  intro p e s m args below meth c Q ls hx hb hml hown ht hX hret hP hS hl
  have hl : lv_has ls 2 [(0, .ref (ad 0)), (1, .int x1)] := hl
  unfold fX9_told at hf
  refine lv_iload_n hx hb dX9_told_0 rfl (lv_at hl 1 rfl) ?_
  by_cases hs0 : x1 = (0 : Int32)
  · rw [if_pos hs0] at hf
    refine lv_tableIn (off := 83) (tgt := 84) hx hb dX9_told_1 (by rw [hs0]; decide) (by rw [hs0]; decide) (by rw [hs0]; rfl) (by decide) ?_
    refine lv_aload_n hx hb dX9_told_84 rfl (lv_at hl 0 rfl) ?_
    obtain ⟨q1, hq1, hf⟩ := obE hf
    refine ct_cVi (rest := []) (tX9_many hD hq1) hx hb hml hown ht hX hP hS wX9_many kML_RX9_128 rfl rfl ⟨Nat.le_of_ble_eq_true rfl, Nat.le_of_ble_eq_true rfl⟩ (va_recv hX.1 hP rfl mw_obj) rfl hl.1 rfl (Nat.le_of_ble_eq_true rfl) dX9_told_85 (fun H locs hP hS => ?_)
    have e0 := Option.some.inj hf
    subst e0
    exact hret _ _ _ _ hP hS dX9_told_88
  · rw [if_neg hs0] at hf
    by_cases hs1 : x1 = (1 : Int32)
    · rw [if_pos hs1] at hf
      refine lv_tableIn (off := 88) (tgt := 89) hx hb dX9_told_1 (by rw [hs1]; decide) (by rw [hs1]; decide) (by rw [hs1]; rfl) (by decide) ?_
      refine lv_aload_n hx hb dX9_told_89 rfl (lv_at hl 0 rfl) ?_
      obtain ⟨q2, hq2, hf⟩ := obE hf
      refine ct_cVi (rest := []) (tX9_top hD hq2) hx hb hml hown ht hX hP hS wX9_top kML_RX9_87 rfl rfl ⟨Nat.le_of_ble_eq_true rfl, Nat.le_of_ble_eq_true rfl⟩ (va_recv hX.1 hP rfl mw_obj) rfl hl.1 rfl (Nat.le_of_ble_eq_true rfl) dX9_told_90 (fun H locs hP hS => ?_)
      refine lv_iconst (v := (-1 : Int32)) hx hb dX9_told_93 (by decide) ?_
      refine lv_icmp_ne (tgt := 101) hx hb dX9_told_94 (by decide) (fun hc3 => ?_) (fun hc3 => ?_)
      · rw [if_neg hc3] at hf
        refine lv_aload_n hx hb dX9_told_101 rfl (lv_at hl 0 rfl) ?_
        refine lv_aload_n hx hb dX9_told_102 rfl (lv_at hl 0 rfl) ?_
        obtain ⟨q4, hq4, hf⟩ := obE hf
        refine ct_cVi (rest := [.ref (ad 0)]) (tX9_top hD hq4) hx hb hml hown ht hX hP hS wX9_top kML_RX9_87 rfl rfl ⟨Nat.le_of_ble_eq_true rfl, Nat.le_of_ble_eq_true rfl⟩ (va_recv hX.1 hP rfl mw_obj) rfl hl.1 rfl (Nat.le_of_ble_eq_true rfl) dX9_told_103 (fun H locs hP hS => ?_)
        refine lv_iconst (v := (0 : Int32)) hx hb dX9_told_106 (by decide) ?_
        obtain ⟨q5, hq5, hf⟩ := obE hf
        refine ct_cVi (rest := []) (tX9_of hD hq5) hx hb hml hown ht hX hP hS wX9_of kML_RX9_63 rfl rfl ⟨Nat.le_of_ble_eq_true rfl, Nat.le_of_ble_eq_true rfl⟩ (va_recv hX.1 hP rfl mw_obj) rfl hl.1 rfl (Nat.le_of_ble_eq_true rfl) dX9_told_107 (fun H locs hP hS => ?_)
        have e0 := Option.some.inj hf
        subst e0
        exact hret _ _ _ _ hP hS dX9_told_110
      · rw [if_pos hc3] at hf
        refine lv_iconst (v := (-1 : Int32)) hx hb dX9_told_97 (by decide) ?_
        refine lv_goto (tgt := 110) hx hb dX9_told_98 (by decide) ?_
        have e0 := Option.some.inj hf
        subst e0
        exact hret _ _ _ _ hP hS dX9_told_110
    · rw [if_neg hs1] at hf
      by_cases hs2 : x1 = (2 : Int32)
      · rw [if_pos hs2] at hf
        refine lv_tableIn (off := 110) (tgt := 111) hx hb dX9_told_1 (by rw [hs2]; decide) (by rw [hs2]; decide) (by rw [hs2]; rfl) (by decide) ?_
        refine lv_aload_n hx hb dX9_told_111 rfl (lv_at hl 0 rfl) ?_
        refine lv_aload_n hx hb dX9_told_112 rfl (lv_at hl 0 rfl) ?_
        obtain ⟨q6, hq6, hf⟩ := obE hf
        refine ct_cVi (rest := [.ref (ad 0)]) (tX9_top hD hq6) hx hb hml hown ht hX hP hS wX9_top kML_RX9_87 rfl rfl ⟨Nat.le_of_ble_eq_true rfl, Nat.le_of_ble_eq_true rfl⟩ (va_recv hX.1 hP rfl mw_obj) rfl hl.1 rfl (Nat.le_of_ble_eq_true rfl) dX9_told_113 (fun H locs hP hS => ?_)
        obtain ⟨q7, hq7, hf⟩ := obE hf
        refine ct_cVi (rest := []) (tX9_rankOf hD hq7) hx hb hml hown ht hX hP hS wX9_rankOf kML_RX9_83 rfl rfl ⟨Nat.le_of_ble_eq_true rfl, Nat.le_of_ble_eq_true rfl⟩ (va_recv hX.1 hP rfl mw_obj) rfl hl.1 rfl (Nat.le_of_ble_eq_true rfl) dX9_told_116 (fun H locs hP hS => ?_)
        have e0 := Option.some.inj hf
        subst e0
        exact hret _ _ _ _ hP hS dX9_told_119
      · rw [if_neg hs2] at hf
        by_cases hs3 : x1 = (3 : Int32)
        · rw [if_pos hs3] at hf
          refine lv_tableIn (off := 119) (tgt := 120) hx hb dX9_told_1 (by rw [hs3]; decide) (by rw [hs3]; decide) (by rw [hs3]; rfl) (by decide) ?_
          refine lv_aload_n hx hb dX9_told_120 rfl (lv_at hl 0 rfl) ?_
          obtain ⟨q8, hq8, hf⟩ := obE hf
          refine ct_cVi (rest := []) (tX9_depth hD hq8) hx hb hml hown ht hX hP hS wX9_depth kML_RX9_149 rfl rfl ⟨Nat.le_of_ble_eq_true rfl, Nat.le_of_ble_eq_true rfl⟩ (va_recv hX.1 hP rfl mw_obj) rfl hl.1 rfl (Nat.le_of_ble_eq_true rfl) dX9_told_121 (fun H locs hP hS => ?_)
          have e0 := Option.some.inj hf
          subst e0
          exact hret _ _ _ _ hP hS dX9_told_124
        · rw [if_neg hs3] at hf
          by_cases hs4 : x1 = (4 : Int32)
          · rw [if_pos hs4] at hf
            refine lv_tableIn (off := 124) (tgt := 125) hx hb dX9_told_1 (by rw [hs4]; decide) (by rw [hs4]; decide) (by rw [hs4]; rfl) (by decide) ?_
            refine lv_aload_n hx hb dX9_told_125 rfl (lv_at hl 0 rfl) ?_
            refine lv_iconst (v := (1 : Int32)) hx hb dX9_told_126 (by decide) ?_
            obtain ⟨q9, hq9, hf⟩ := obE hf
            refine ct_cVi (rest := []) (tX9_sumOf hD hq9) hx hb hml hown ht hX hP hS wX9_sumOf kML_RX9_152 rfl rfl ⟨Nat.le_of_ble_eq_true rfl, Nat.le_of_ble_eq_true rfl⟩ (va_recv hX.1 hP rfl mw_obj) rfl hl.1 rfl (Nat.le_of_ble_eq_true rfl) dX9_told_127 (fun H locs hP hS => ?_)
            have e0 := Option.some.inj hf
            subst e0
            exact hret _ _ _ _ hP hS dX9_told_130
          · rw [if_neg hs4] at hf
            by_cases hs5 : x1 = (5 : Int32)
            · rw [if_pos hs5] at hf
              refine lv_tableIn (off := 130) (tgt := 131) hx hb dX9_told_1 (by rw [hs5]; decide) (by rw [hs5]; decide) (by rw [hs5]; rfl) (by decide) ?_
              refine lv_aload_n hx hb dX9_told_131 rfl (lv_at hl 0 rfl) ?_
              refine va_get (ci := 7) (v := .ref (ad 1)) hx hb ht i_X9 hown hX.1 hP 0 mw_obj rfl 0 (by decide) (ht _ kFL_RX9_7) (fun _ h9 => h9) rfl dX9_told_132 ?_
              refine lv_sipush (v := (362 : Int32)) hx hb dX9_told_135 (by decide) ?_
              refine lv_iload_n hx hb dX9_told_138 rfl (lv_at hl 1 rfl) ?_
              refine lv_iadd hx hb dX9_told_139 ?_
              refine lv_iconst (v := (5 : Int32)) hx hb dX9_told_140 (by decide) ?_
              refine lv_isub hx hb dX9_told_141 ?_
              obtain ⟨hn10, hf⟩ := ngE _ hf
              refine va_iald hx hb hX.1 hP 1 0 mw_now rfl hn10 dX9_told_142 ?_
              have e0 := Option.some.inj hf
              subst e0
              exact hret _ _ _ _ hP hS dX9_told_143
            · rw [if_neg hs5] at hf
              by_cases hs6 : x1 = (6 : Int32)
              · rw [if_pos hs6] at hf
                refine lv_tableIn (off := 130) (tgt := 131) hx hb dX9_told_1 (by rw [hs6]; decide) (by rw [hs6]; decide) (by rw [hs6]; rfl) (by decide) ?_
                refine lv_aload_n hx hb dX9_told_131 rfl (lv_at hl 0 rfl) ?_
                refine va_get (ci := 7) (v := .ref (ad 1)) hx hb ht i_X9 hown hX.1 hP 0 mw_obj rfl 0 (by decide) (ht _ kFL_RX9_7) (fun _ h9 => h9) rfl dX9_told_132 ?_
                refine lv_sipush (v := (362 : Int32)) hx hb dX9_told_135 (by decide) ?_
                refine lv_iload_n hx hb dX9_told_138 rfl (lv_at hl 1 rfl) ?_
                refine lv_iadd hx hb dX9_told_139 ?_
                refine lv_iconst (v := (5 : Int32)) hx hb dX9_told_140 (by decide) ?_
                refine lv_isub hx hb dX9_told_141 ?_
                obtain ⟨hn11, hf⟩ := ngE _ hf
                refine va_iald hx hb hX.1 hP 1 0 mw_now rfl hn11 dX9_told_142 ?_
                have e0 := Option.some.inj hf
                subst e0
                exact hret _ _ _ _ hP hS dX9_told_143
              · rw [if_neg hs6] at hf
                by_cases hs7 : x1 = (7 : Int32)
                · rw [if_pos hs7] at hf
                  refine lv_tableIn (off := 130) (tgt := 131) hx hb dX9_told_1 (by rw [hs7]; decide) (by rw [hs7]; decide) (by rw [hs7]; rfl) (by decide) ?_
                  refine lv_aload_n hx hb dX9_told_131 rfl (lv_at hl 0 rfl) ?_
                  refine va_get (ci := 7) (v := .ref (ad 1)) hx hb ht i_X9 hown hX.1 hP 0 mw_obj rfl 0 (by decide) (ht _ kFL_RX9_7) (fun _ h9 => h9) rfl dX9_told_132 ?_
                  refine lv_sipush (v := (362 : Int32)) hx hb dX9_told_135 (by decide) ?_
                  refine lv_iload_n hx hb dX9_told_138 rfl (lv_at hl 1 rfl) ?_
                  refine lv_iadd hx hb dX9_told_139 ?_
                  refine lv_iconst (v := (5 : Int32)) hx hb dX9_told_140 (by decide) ?_
                  refine lv_isub hx hb dX9_told_141 ?_
                  obtain ⟨hn12, hf⟩ := ngE _ hf
                  refine va_iald hx hb hX.1 hP 1 0 mw_now rfl hn12 dX9_told_142 ?_
                  have e0 := Option.some.inj hf
                  subst e0
                  exact hret _ _ _ _ hP hS dX9_told_143
                · rw [if_neg hs7] at hf
                  by_cases hs8 : x1 = (8 : Int32)
                  · rw [if_pos hs8] at hf
                    refine lv_tableIn (off := 130) (tgt := 131) hx hb dX9_told_1 (by rw [hs8]; decide) (by rw [hs8]; decide) (by rw [hs8]; rfl) (by decide) ?_
                    refine lv_aload_n hx hb dX9_told_131 rfl (lv_at hl 0 rfl) ?_
                    refine va_get (ci := 7) (v := .ref (ad 1)) hx hb ht i_X9 hown hX.1 hP 0 mw_obj rfl 0 (by decide) (ht _ kFL_RX9_7) (fun _ h9 => h9) rfl dX9_told_132 ?_
                    refine lv_sipush (v := (362 : Int32)) hx hb dX9_told_135 (by decide) ?_
                    refine lv_iload_n hx hb dX9_told_138 rfl (lv_at hl 1 rfl) ?_
                    refine lv_iadd hx hb dX9_told_139 ?_
                    refine lv_iconst (v := (5 : Int32)) hx hb dX9_told_140 (by decide) ?_
                    refine lv_isub hx hb dX9_told_141 ?_
                    obtain ⟨hn13, hf⟩ := ngE _ hf
                    refine va_iald hx hb hX.1 hP 1 0 mw_now rfl hn13 dX9_told_142 ?_
                    have e0 := Option.some.inj hf
                    subst e0
                    exact hret _ _ _ _ hP hS dX9_told_143
                  · rw [if_neg hs8] at hf
                    by_cases hs9 : x1 = (9 : Int32)
                    · rw [if_pos hs9] at hf
                      refine lv_tableIn (off := 130) (tgt := 131) hx hb dX9_told_1 (by rw [hs9]; decide) (by rw [hs9]; decide) (by rw [hs9]; rfl) (by decide) ?_
                      refine lv_aload_n hx hb dX9_told_131 rfl (lv_at hl 0 rfl) ?_
                      refine va_get (ci := 7) (v := .ref (ad 1)) hx hb ht i_X9 hown hX.1 hP 0 mw_obj rfl 0 (by decide) (ht _ kFL_RX9_7) (fun _ h9 => h9) rfl dX9_told_132 ?_
                      refine lv_sipush (v := (362 : Int32)) hx hb dX9_told_135 (by decide) ?_
                      refine lv_iload_n hx hb dX9_told_138 rfl (lv_at hl 1 rfl) ?_
                      refine lv_iadd hx hb dX9_told_139 ?_
                      refine lv_iconst (v := (5 : Int32)) hx hb dX9_told_140 (by decide) ?_
                      refine lv_isub hx hb dX9_told_141 ?_
                      obtain ⟨hn14, hf⟩ := ngE _ hf
                      refine va_iald hx hb hX.1 hP 1 0 mw_now rfl hn14 dX9_told_142 ?_
                      have e0 := Option.some.inj hf
                      subst e0
                      exact hret _ _ _ _ hP hS dX9_told_143
                    · rw [if_neg hs9] at hf
                      by_cases hs10 : x1 = (10 : Int32)
                      · rw [if_pos hs10] at hf
                        refine lv_tableIn (off := 130) (tgt := 131) hx hb dX9_told_1 (by rw [hs10]; decide) (by rw [hs10]; decide) (by rw [hs10]; rfl) (by decide) ?_
                        refine lv_aload_n hx hb dX9_told_131 rfl (lv_at hl 0 rfl) ?_
                        refine va_get (ci := 7) (v := .ref (ad 1)) hx hb ht i_X9 hown hX.1 hP 0 mw_obj rfl 0 (by decide) (ht _ kFL_RX9_7) (fun _ h9 => h9) rfl dX9_told_132 ?_
                        refine lv_sipush (v := (362 : Int32)) hx hb dX9_told_135 (by decide) ?_
                        refine lv_iload_n hx hb dX9_told_138 rfl (lv_at hl 1 rfl) ?_
                        refine lv_iadd hx hb dX9_told_139 ?_
                        refine lv_iconst (v := (5 : Int32)) hx hb dX9_told_140 (by decide) ?_
                        refine lv_isub hx hb dX9_told_141 ?_
                        obtain ⟨hn15, hf⟩ := ngE _ hf
                        refine va_iald hx hb hX.1 hP 1 0 mw_now rfl hn15 dX9_told_142 ?_
                        have e0 := Option.some.inj hf
                        subst e0
                        exact hret _ _ _ _ hP hS dX9_told_143
                      · rw [if_neg hs10] at hf
                        by_cases hs11 : x1 = (11 : Int32)
                        · rw [if_pos hs11] at hf
                          refine lv_tableIn (off := 143) (tgt := 144) hx hb dX9_told_1 (by rw [hs11]; decide) (by rw [hs11]; decide) (by rw [hs11]; rfl) (by decide) ?_
                          refine lv_aload_n hx hb dX9_told_144 rfl (lv_at hl 0 rfl) ?_
                          refine lv_iconst (v := (2 : Int32)) hx hb dX9_told_145 (by decide) ?_
                          obtain ⟨q16, hq16, hf⟩ := obE hf
                          refine ct_cVi (rest := []) (tX9_sumOf hD hq16) hx hb hml hown ht hX hP hS wX9_sumOf kML_RX9_152 rfl rfl ⟨Nat.le_of_ble_eq_true rfl, Nat.le_of_ble_eq_true rfl⟩ (va_recv hX.1 hP rfl mw_obj) rfl hl.1 rfl (Nat.le_of_ble_eq_true rfl) dX9_told_146 (fun H locs hP hS => ?_)
                          have e0 := Option.some.inj hf
                          subst e0
                          exact hret _ _ _ _ hP hS dX9_told_149
                        · rw [if_neg hs11] at hf
                          by_cases hs12 : x1 = (12 : Int32)
                          · rw [if_pos hs12] at hf
                            refine lv_tableIn (off := 149) (tgt := 150) hx hb dX9_told_1 (by rw [hs12]; decide) (by rw [hs12]; decide) (by rw [hs12]; rfl) (by decide) ?_
                            refine lv_aload_n hx hb dX9_told_150 rfl (lv_at hl 0 rfl) ?_
                            obtain ⟨q17, hq17, hf⟩ := obE hf
                            refine ct_cVi (rest := []) (tX9_twos hD hq17) hx hb hml hown ht hX hP hS wX9_twos kML_RX9_155 rfl rfl ⟨Nat.le_of_ble_eq_true rfl, Nat.le_of_ble_eq_true rfl⟩ (va_recv hX.1 hP rfl mw_obj) rfl hl.1 rfl (Nat.le_of_ble_eq_true rfl) dX9_told_151 (fun H locs hP hS => ?_)
                            have e0 := Option.some.inj hf
                            subst e0
                            exact hret _ _ _ _ hP hS dX9_told_154
                          · rw [if_neg hs12] at hf
                            by_cases hs13 : x1 = (13 : Int32)
                            · rw [if_pos hs13] at hf
                              refine lv_tableIn (off := 154) (tgt := 155) hx hb dX9_told_1 (by rw [hs13]; decide) (by rw [hs13]; decide) (by rw [hs13]; rfl) (by decide) ?_
                              refine lv_aload_n hx hb dX9_told_155 rfl (lv_at hl 0 rfl) ?_
                              obtain ⟨q18, hq18, hf⟩ := obE hf
                              refine ct_cVi (rest := []) (tX9_costly hD hq18) hx hb hml hown ht hX hP hS wX9_costly kML_RX9_158 rfl rfl ⟨Nat.le_of_ble_eq_true rfl, Nat.le_of_ble_eq_true rfl⟩ (va_recv hX.1 hP rfl mw_obj) rfl hl.1 rfl (Nat.le_of_ble_eq_true rfl) dX9_told_156 (fun H locs hP hS => ?_)
                              have e0 := Option.some.inj hf
                              subst e0
                              exact hret _ _ _ _ hP hS dX9_told_159
                            · rw [if_neg hs13] at hf
                              by_cases hs14 : x1 = (14 : Int32)
                              · rw [if_pos hs14] at hf
                                refine lv_tableIn (off := 159) (tgt := 160) hx hb dX9_told_1 (by rw [hs14]; decide) (by rw [hs14]; decide) (by rw [hs14]; rfl) (by decide) ?_
                                refine lv_aload_n hx hb dX9_told_160 rfl (lv_at hl 0 rfl) ?_
                                obtain ⟨q19, hq19, hf⟩ := obE hf
                                refine ct_cVi (rest := []) (tX9_flat hD hq19) hx hb hml hown ht hX hP hS wX9_flat kML_RX9_161 rfl rfl ⟨Nat.le_of_ble_eq_true rfl, Nat.le_of_ble_eq_true rfl⟩ (va_recv hX.1 hP rfl mw_obj) rfl hl.1 rfl (Nat.le_of_ble_eq_true rfl) dX9_told_161 (fun H locs hP hS => ?_)
                                have e0 := Option.some.inj hf
                                subst e0
                                exact hret _ _ _ _ hP hS dX9_told_164
                              · rw [if_neg hs14] at hf
                                by_cases hs15 : x1 = (15 : Int32)
                                · rw [if_pos hs15] at hf
                                  refine lv_tableIn (off := 164) (tgt := 165) hx hb dX9_told_1 (by rw [hs15]; decide) (by rw [hs15]; decide) (by rw [hs15]; rfl) (by decide) ?_
                                  refine lv_aload_n hx hb dX9_told_165 rfl (lv_at hl 0 rfl) ?_
                                  obtain ⟨q20, hq20, hf⟩ := obE hf
                                  refine ct_cVi (rest := []) (tX9_tall hD hq20) hx hb hml hown ht hX hP hS wX9_tall kML_RX9_164 rfl rfl ⟨Nat.le_of_ble_eq_true rfl, Nat.le_of_ble_eq_true rfl⟩ (va_recv hX.1 hP rfl mw_obj) rfl hl.1 rfl (Nat.le_of_ble_eq_true rfl) dX9_told_166 (fun H locs hP hS => ?_)
                                  have e0 := Option.some.inj hf
                                  subst e0
                                  exact hret _ _ _ _ hP hS dX9_told_169
                                · rw [if_neg hs15] at hf
                                  by_cases hs16 : x1 = (16 : Int32)
                                  · rw [if_pos hs16] at hf
                                    refine lv_tableIn (off := 169) (tgt := 170) hx hb dX9_told_1 (by rw [hs16]; decide) (by rw [hs16]; decide) (by rw [hs16]; rfl) (by decide) ?_
                                    refine lv_aload_n hx hb dX9_told_170 rfl (lv_at hl 0 rfl) ?_
                                    refine va_get (ci := 7) (v := .int un) hx hb ht i_X9 hown hX.1 hP 0 mw_obj rfl 2 (by decide) (ht _ kFL_RX9_167) (fun _ h9 => h9) rfl dX9_told_171 ?_
                                    have e0 := Option.some.inj hf
                                    subst e0
                                    exact hret _ _ _ _ hP hS dX9_told_174
                                  · rw [if_neg hs16] at hf
                                    have hz0 : ¬ (x1).toInt = 0 := lv_neT hs0 (by decide)
                                    have hz1 : ¬ (x1).toInt = 1 := lv_neT hs1 (by decide)
                                    have hz2 : ¬ (x1).toInt = 2 := lv_neT hs2 (by decide)
                                    have hz3 : ¬ (x1).toInt = 3 := lv_neT hs3 (by decide)
                                    have hz4 : ¬ (x1).toInt = 4 := lv_neT hs4 (by decide)
                                    have hz5 : ¬ (x1).toInt = 5 := lv_neT hs5 (by decide)
                                    have hz6 : ¬ (x1).toInt = 6 := lv_neT hs6 (by decide)
                                    have hz7 : ¬ (x1).toInt = 7 := lv_neT hs7 (by decide)
                                    have hz8 : ¬ (x1).toInt = 8 := lv_neT hs8 (by decide)
                                    have hz9 : ¬ (x1).toInt = 9 := lv_neT hs9 (by decide)
                                    have hz10 : ¬ (x1).toInt = 10 := lv_neT hs10 (by decide)
                                    have hz11 : ¬ (x1).toInt = 11 := lv_neT hs11 (by decide)
                                    have hz12 : ¬ (x1).toInt = 12 := lv_neT hs12 (by decide)
                                    have hz13 : ¬ (x1).toInt = 13 := lv_neT hs13 (by decide)
                                    have hz14 : ¬ (x1).toInt = 14 := lv_neT hs14 (by decide)
                                    have hz15 : ¬ (x1).toInt = 15 := lv_neT hs15 (by decide)
                                    have hz16 : ¬ (x1).toInt = 16 := lv_neT hs16 (by decide)
                                    refine lv_tableOut (tgt := 175) hx hb dX9_told_1 (by omega) (by decide) ?_
                                    refine lv_ldc hx hb hown (ht _ kKI_RX9_171) dX9_told_175 ?_
                                    have e0 := Option.some.inj hf
                                    subst e0
                                    exact hret _ _ _ _ hP hS dX9_told_177
def fX9_isNode (F : Nat) (now : Nat → Int32) (x1 : Int32) : Option (Int32) := (fX9_many F now).bind fun q1 => ((fX9_in F x1.toInt64 (0 : Int64) ((q1 - (1 : Int32)).toInt64)).bind fun q2 => (if q2 = 0 ∨ q2 = 1 then some q2 else none))
abbrev rX9_isNode : Room := { frames := 1, cells := 0, slots := 0, locals := 25 }
theorem wX9_isNode : kV yX9_isNode cX9_isNode 2 (some .boolean) 1 := ⟨kCO_yX9_isNode, kIM_yX9_isNode, kSE_yX9_isNode, kIN_RX9, by decide +kernel, by decide +kernel, by decide +kernel⟩
set_option maxHeartbeats 4000000 in
set_option maxRecDepth 100000 in
theorem tX9_isNode {l : Launch} {D : va_G} {cI cZ : ClassId} {ad : Nat → Nat} (hD : gInj 15 ad) {F : Nat} {un sd : Int32} {now past images iseed kept order numof above pile aside fewest deep keys worths : Nat → Int32} {x1 : Int32} {res : Int32} (hf : fX9_isNode F now x1 = some res) : CTi l yX9_isNode cX9_isNode 2 .boolean rX9_isNode D (mTy cI cZ) (gA 15 ad) [.ref (ad 0), .int x1] (mw cI cZ ad un sd now past images iseed kept order numof above pile aside fewest deep keys worths) res (mw cI cZ ad un sd now past images iseed kept order numof above pile aside fewest deep keys worths) := by
  refine ct_bool (by decide) (Nat.le_of_ble_eq_true rfl) ?_
  intro p e s m args below meth c Q ls hx hb hml hown ht hX hret hP hS hl
  have hl : lv_has ls 2 [(0, .ref (ad 0)), (1, .int x1)] := hl
  unfold fX9_isNode at hf
  refine lv_iload_n hx hb dX9_isNode_0 rfl (lv_at hl 1 rfl) ?_
  refine lv_i2l (v := x1.toInt64) hx hb dX9_isNode_1 rfl ?_
  refine lv_lconst (v := (0 : Int64)) hx hb dX9_isNode_2 (by decide) ?_
  refine lv_aload_n hx hb dX9_isNode_3 rfl (lv_at hl 0 rfl) ?_
  obtain ⟨q1, hq1, hf⟩ := obE hf
  refine ct_cVi (rest := [.long ((0 : Int64)), .long (x1.toInt64)]) (tX9_many hD hq1) hx hb hml hown ht hX hP hS wX9_many kML_RX9_128 rfl rfl ⟨Nat.le_of_ble_eq_true rfl, Nat.le_of_ble_eq_true rfl⟩ (va_recv hX.1 hP rfl mw_obj) rfl hl.1 rfl (Nat.le_of_ble_eq_true rfl) dX9_isNode_4 (fun H locs hP hS => ?_)
  refine lv_iconst (v := (1 : Int32)) hx hb dX9_isNode_7 (by decide) ?_
  refine lv_isub hx hb dX9_isNode_8 ?_
  refine lv_i2l (v := (q1 - (1 : Int32)).toInt64) hx hb dX9_isNode_9 rfl ?_
  obtain ⟨q2, hq2, hf⟩ := obE hf
  refine ct_cSi (rest := []) (tX9_in hD hq2) hx hb hml hown ht hX hP hS wX9_in kML_RX9_172 rfl rfl ⟨Nat.le_of_ble_eq_true rfl, Nat.le_of_ble_eq_true rfl⟩ rfl hl.1 rfl (Nat.le_of_ble_eq_true rfl) dX9_isNode_10 (fun H locs hP hS => ?_)
  obtain ⟨h01, hf⟩ := psE _ hf
  have e0 := Option.some.inj hf
  subst e0
  exact hret _ _ _ _ h01 hP hS dX9_isNode_13
def fX9_numberAt (F : Nat) (numof : Nat → Int32) (x1 : Int32) : Option (Int32) := if x1 = (-1 : Int32) then (some (-1 : Int32)) else (if x1 < 0 ∨ 60 ≤ x1.toNatClampNeg then none else (some (numof x1.toNatClampNeg)))
abbrev rX9_numberAt : Room := { frames := 0, cells := 0, slots := 0, locals := 0 }
theorem wX9_numberAt : kV yX9_numberAt cX9_numberAt 2 (some .int) 1 := ⟨kCO_yX9_numberAt, kIM_yX9_numberAt, kSE_yX9_numberAt, kIN_RX9, by decide +kernel, by decide +kernel, by decide +kernel⟩
set_option maxHeartbeats 4000000 in
set_option maxRecDepth 100000 in
theorem tX9_numberAt {l : Launch} {D : va_G} {cI cZ : ClassId} {ad : Nat → Nat} (hD : gInj 15 ad) {F : Nat} {un sd : Int32} {now past images iseed kept order numof above pile aside fewest deep keys worths : Nat → Int32} {x1 : Int32} {res : Int32} (hf : fX9_numberAt F numof x1 = some res) : CTi l yX9_numberAt cX9_numberAt 2 .int rX9_numberAt D (mTy cI cZ) (gA 15 ad) [.ref (ad 0), .int x1] (mw cI cZ ad un sd now past images iseed kept order numof above pile aside fewest deep keys worths) res (mw cI cZ ad un sd now past images iseed kept order numof above pile aside fewest deep keys worths) := by
  refine ct_int (by decide) (Nat.le_of_ble_eq_true rfl) ?_
  intro p e s m args below meth c Q ls hx hb hml hown ht hX hret hP hS hl
  have hl : lv_has ls 2 [(0, .ref (ad 0)), (1, .int x1)] := hl
  unfold fX9_numberAt at hf
  refine lv_iload_n hx hb dX9_numberAt_0 rfl (lv_at hl 1 rfl) ?_
  refine lv_iconst (v := (-1 : Int32)) hx hb dX9_numberAt_1 (by decide) ?_
  refine lv_icmp_ne (tgt := 9) hx hb dX9_numberAt_2 (by decide) (fun hc1 => ?_) (fun hc1 => ?_)
  · rw [if_neg hc1] at hf
    refine lv_aload_n hx hb dX9_numberAt_9 rfl (lv_at hl 0 rfl) ?_
    refine va_get (ci := 7) (v := .ref (ad 7)) hx hb ht i_X9 hown hX.1 hP 0 mw_obj rfl 8 (by decide) (ht _ kFL_RX9_29) (fun _ h9 => h9) rfl dX9_numberAt_10 ?_
    refine lv_iload_n hx hb dX9_numberAt_13 rfl (lv_at hl 1 rfl) ?_
    obtain ⟨hn2, hf⟩ := ngE _ hf
    refine va_iald hx hb hX.1 hP 7 0 mw_numof rfl hn2 dX9_numberAt_14 ?_
    have e0 := Option.some.inj hf
    subst e0
    exact hret _ _ _ _ hP hS dX9_numberAt_15
  · rw [if_pos hc1] at hf
    refine lv_iconst (v := (-1 : Int32)) hx hb dX9_numberAt_5 (by decide) ?_
    refine lv_goto (tgt := 15) hx hb dX9_numberAt_6 (by decide) ?_
    have e0 := Option.some.inj hf
    subst e0
    exact hret _ _ _ _ hP hS dX9_numberAt_15
def fX9_node (F : Nat) (now : Nat → Int32) (order : Nat → Int32) (numof : Nat → Int32) (above : Nat → Int32) (pile : Nat → Int32) (x1 : Int32) (x2 : Int32) : Option (Int32 × (Nat → Int32) × (Nat → Int32) × (Nat → Int32) × (Nat → Int32)) := (fX9_isNode F now x1).bind fun q1 => (if q1 = 0 then (some ((-1000000001 : Int32), order, numof, above, pile)) else ((fX9_numbers F now order numof above pile).bind fun q3 => (if x1 < 0 ∨ 60 ≤ x1.toNatClampNeg then none else (if x2 = (0 : Int32) then ((fX9_of F now (q3.1 x1.toNatClampNeg) (0 : Int32)).bind fun q5 => (some (q5, q3.1, q3.2.1, q3.2.2.1, q3.2.2.2))) else (if x2 = (1 : Int32) then ((fX9_of F now (q3.1 x1.toNatClampNeg) (2 : Int32)).bind fun q6 => (some (q6, q3.1, q3.2.1, q3.2.2.1, q3.2.2.2))) else (if x2 = (2 : Int32) then (if (q3.1 x1.toNatClampNeg) < 0 ∨ 60 ≤ (q3.1 x1.toNatClampNeg).toNatClampNeg then none else (some (q3.2.2.1 (q3.1 x1.toNatClampNeg).toNatClampNeg, q3.1, q3.2.1, q3.2.2.1, q3.2.2.2))) else (if x2 = (3 : Int32) then ((fX9_of F now (q3.1 x1.toNatClampNeg) x2).bind fun q8 => ((fX9_numberAt F q3.2.1 q8).bind fun q9 => (some (q9, q3.1, q3.2.1, q3.2.2.1, q3.2.2.2)))) else (if x2 = (4 : Int32) then ((fX9_of F now (q3.1 x1.toNatClampNeg) x2).bind fun q10 => ((fX9_numberAt F q3.2.1 q10).bind fun q11 => (some (q11, q3.1, q3.2.1, q3.2.2.1, q3.2.2.2)))) else (if x2 = (5 : Int32) then ((fX9_sizeOf F now q3.1 q3.2.1 q3.2.2.1 (q3.1 x1.toNatClampNeg)).bind fun q12 => (some (q12, q3.1, q3.2.1, q3.2.2.1, q3.2.2.2))) else (if x2 = (6 : Int32) then ((fX9_top F now).bind fun q13 => (if (q3.1 x1.toNatClampNeg) = q13 then (some ((-1 : Int32), q3.1, q3.2.1, q3.2.2.1, q3.2.2.2)) else ((fX9_of F now (q3.1 x1.toNatClampNeg) (5 : Int32)).bind fun q15 => ((fX9_step F now q15 (q3.1 x1.toNatClampNeg)).bind fun q16 => (some (q16, q3.1, q3.2.1, q3.2.2.1, q3.2.2.2)))))) else (some ((-1000000002 : Int32), q3.1, q3.2.1, q3.2.2.1, q3.2.2.2))))))))))))
abbrev rX9_node : Room := { frames := 3, cells := 0, slots := 0, locals := 69 }
theorem wX9_node : kV yX9_node cX9_node 4 (some .int) 2 := ⟨kCO_yX9_node, kIM_yX9_node, kSE_yX9_node, kIN_RX9, by decide +kernel, by decide +kernel, by decide +kernel⟩
set_option maxHeartbeats 4000000 in
set_option maxRecDepth 100000 in
theorem tX9_node {l : Launch} {D : va_G} {cI cZ : ClassId} {ad : Nat → Nat} (hD : gInj 15 ad) {F : Nat} {un sd : Int32} {now past images iseed kept order numof above pile aside fewest deep keys worths : Nat → Int32} {x1 : Int32} {x2 : Int32} {res : Int32 × (Nat → Int32) × (Nat → Int32) × (Nat → Int32) × (Nat → Int32)} (hf : fX9_node F now order numof above pile x1 x2 = some res) : CTi l yX9_node cX9_node 4 .int rX9_node D (mTy cI cZ) (gA 15 ad) [.ref (ad 0), .int x1, .int x2] (mw cI cZ ad un sd now past images iseed kept order numof above pile aside fewest deep keys worths) res.1 (mw cI cZ ad un sd now past images iseed kept res.2.1 res.2.2.1 res.2.2.2.1 res.2.2.2.2 aside fewest deep keys worths) := by
  refine ct_int (by decide) (Nat.le_of_ble_eq_true rfl) ?_
  intro p e s m args below meth c Q ls hx hb hml hown ht hX hret hP hS hl
  have hl : lv_has ls 4 [(0, .ref (ad 0)), (1, .int x1), (2, .int x2)] := hl
  unfold fX9_node at hf
  refine lv_aload_n hx hb dX9_node_0 rfl (lv_at hl 0 rfl) ?_
  refine lv_iload_n hx hb dX9_node_1 rfl (lv_at hl 1 rfl) ?_
  obtain ⟨q1, hq1, hf⟩ := obE hf
  refine ct_cVi (rest := []) (tX9_isNode hD hq1) hx hb hml hown ht hX hP hS wX9_isNode kML_RX9_176 rfl rfl ⟨Nat.le_of_ble_eq_true rfl, Nat.le_of_ble_eq_true rfl⟩ (va_recv hX.1 hP rfl mw_obj) rfl hl.1 rfl (Nat.le_of_ble_eq_true rfl) dX9_node_2 (fun H locs hP hS => ?_)
  refine lv_if_ne (tgt := 11) hx hb dX9_node_5 (by decide) (fun hc2 => ?_) (fun hc2 => ?_)
  · rw [if_neg hc2] at hf
    refine lv_aload_n hx hb dX9_node_11 rfl (lv_at hl 0 rfl) ?_
    obtain ⟨q3, hq3, hf⟩ := obE hf
    refine ct_cVv (rest := []) (tX9_numbers hD hq3) hx hb hml hown ht hX hP hS wX9_numbers kML_RX9_131 rfl rfl ⟨Nat.le_of_ble_eq_true rfl, Nat.le_of_ble_eq_true rfl⟩ (va_recv hX.1 hP rfl mw_obj) rfl hl.1 rfl (Nat.le_of_ble_eq_true rfl) dX9_node_12 (fun H locs hP hS => ?_)
    refine lv_aload_n hx hb dX9_node_15 rfl (lv_at hl 0 rfl) ?_
    refine va_get (ci := 7) (v := .ref (ad 6)) hx hb ht i_X9 hown hX.1 hP 0 mw_obj rfl 7 (by decide) (ht _ kFL_RX9_26) (fun _ h9 => h9) rfl dX9_node_16 ?_
    refine lv_iload_n hx hb dX9_node_19 rfl (lv_at hl 1 rfl) ?_
    obtain ⟨hn4, hf⟩ := ngE _ hf
    refine va_iald hx hb hX.1 hP 6 0 mw_order rfl hn4 dX9_node_20 ?_
    refine lv_istore_n (lv' := [(3, .int (q3.1 x1.toNatClampNeg)), (0, .ref (ad 0)), (1, .int x1), (2, .int x2)]) hx hb dX9_node_21 rfl hl (by decide) rfl (fun ls hl => ?_)
    refine lv_iload_n hx hb dX9_node_22 rfl (lv_at hl 3 rfl) ?_
    by_cases hs0 : x2 = (0 : Int32)
    · rw [if_pos hs0] at hf
      refine lv_tableIn (off := 41) (tgt := 64) hx hb dX9_node_23 (by rw [hs0]; decide) (by rw [hs0]; decide) (by rw [hs0]; rfl) (by decide) ?_
      refine lv_aload_n hx hb dX9_node_64 rfl (lv_at hl 1 rfl) ?_
      refine lv_iload_n hx hb dX9_node_65 rfl (lv_at hl 0 rfl) ?_
      refine lv_iconst (v := (0 : Int32)) hx hb dX9_node_66 (by decide) ?_
      obtain ⟨q5, hq5, hf⟩ := obE hf
      refine ct_cVi (rest := []) (tX9_of hD hq5) hx hb hml hown ht hX hP hS wX9_of kML_RX9_63 rfl rfl ⟨Nat.le_of_ble_eq_true rfl, Nat.le_of_ble_eq_true rfl⟩ (va_recv hX.1 hP rfl mw_obj) rfl hl.1 rfl (Nat.le_of_ble_eq_true rfl) dX9_node_67 (fun H locs hP hS => ?_)
      have e0 := Option.some.inj hf
      subst e0
      exact hret _ _ _ _ hP hS dX9_node_70
    · rw [if_neg hs0] at hf
      by_cases hs1 : x2 = (1 : Int32)
      · rw [if_pos hs1] at hf
        refine lv_tableIn (off := 48) (tgt := 71) hx hb dX9_node_23 (by rw [hs1]; decide) (by rw [hs1]; decide) (by rw [hs1]; rfl) (by decide) ?_
        refine lv_aload_n hx hb dX9_node_71 rfl (lv_at hl 1 rfl) ?_
        refine lv_iload_n hx hb dX9_node_72 rfl (lv_at hl 0 rfl) ?_
        refine lv_iconst (v := (2 : Int32)) hx hb dX9_node_73 (by decide) ?_
        obtain ⟨q6, hq6, hf⟩ := obE hf
        refine ct_cVi (rest := []) (tX9_of hD hq6) hx hb hml hown ht hX hP hS wX9_of kML_RX9_63 rfl rfl ⟨Nat.le_of_ble_eq_true rfl, Nat.le_of_ble_eq_true rfl⟩ (va_recv hX.1 hP rfl mw_obj) rfl hl.1 rfl (Nat.le_of_ble_eq_true rfl) dX9_node_74 (fun H locs hP hS => ?_)
        have e0 := Option.some.inj hf
        subst e0
        exact hret _ _ _ _ hP hS dX9_node_77
      · rw [if_neg hs1] at hf
        by_cases hs2 : x2 = (2 : Int32)
        · rw [if_pos hs2] at hf
          refine lv_tableIn (off := 55) (tgt := 78) hx hb dX9_node_23 (by rw [hs2]; decide) (by rw [hs2]; decide) (by rw [hs2]; rfl) (by decide) ?_
          refine lv_aload_n hx hb dX9_node_78 rfl (lv_at hl 1 rfl) ?_
          refine va_get (ci := 7) (v := .ref (ad 8)) hx hb ht i_X9 hown hX.1 hP 0 mw_obj rfl 9 (by decide) (ht _ kFL_RX9_32) (fun _ h9 => h9) rfl dX9_node_79 ?_
          refine lv_iload_n hx hb dX9_node_82 rfl (lv_at hl 0 rfl) ?_
          obtain ⟨hn7, hf⟩ := ngE _ hf
          refine va_iald hx hb hX.1 hP 8 0 mw_above rfl hn7 dX9_node_83 ?_
          have e0 := Option.some.inj hf
          subst e0
          exact hret _ _ _ _ hP hS dX9_node_84
        · rw [if_neg hs2] at hf
          by_cases hs3 : x2 = (3 : Int32)
          · rw [if_pos hs3] at hf
            refine lv_tableIn (off := 62) (tgt := 85) hx hb dX9_node_23 (by rw [hs3]; decide) (by rw [hs3]; decide) (by rw [hs3]; rfl) (by decide) ?_
            refine lv_aload_n hx hb dX9_node_85 rfl (lv_at hl 1 rfl) ?_
            refine lv_aload_n hx hb dX9_node_86 rfl (lv_at hl 1 rfl) ?_
            refine lv_iload_n hx hb dX9_node_87 rfl (lv_at hl 0 rfl) ?_
            refine lv_iload_n hx hb dX9_node_88 rfl (lv_at hl 3 rfl) ?_
            obtain ⟨q8, hq8, hf⟩ := obE hf
            refine ct_cVi (rest := [.ref (ad 0)]) (tX9_of hD hq8) hx hb hml hown ht hX hP hS wX9_of kML_RX9_63 rfl rfl ⟨Nat.le_of_ble_eq_true rfl, Nat.le_of_ble_eq_true rfl⟩ (va_recv hX.1 hP rfl mw_obj) rfl hl.1 rfl (Nat.le_of_ble_eq_true rfl) dX9_node_89 (fun H locs hP hS => ?_)
            obtain ⟨q9, hq9, hf⟩ := obE hf
            refine ct_cVi (rest := []) (tX9_numberAt hD hq9) hx hb hml hown ht hX hP hS wX9_numberAt kML_RX9_180 rfl rfl ⟨Nat.le_of_ble_eq_true rfl, Nat.le_of_ble_eq_true rfl⟩ (va_recv hX.1 hP rfl mw_obj) rfl hl.1 rfl (Nat.le_of_ble_eq_true rfl) dX9_node_92 (fun H locs hP hS => ?_)
            have e0 := Option.some.inj hf
            subst e0
            exact hret _ _ _ _ hP hS dX9_node_95
          · rw [if_neg hs3] at hf
            by_cases hs4 : x2 = (4 : Int32)
            · rw [if_pos hs4] at hf
              refine lv_tableIn (off := 62) (tgt := 85) hx hb dX9_node_23 (by rw [hs4]; decide) (by rw [hs4]; decide) (by rw [hs4]; rfl) (by decide) ?_
              refine lv_aload_n hx hb dX9_node_85 rfl (lv_at hl 1 rfl) ?_
              refine lv_aload_n hx hb dX9_node_86 rfl (lv_at hl 1 rfl) ?_
              refine lv_iload_n hx hb dX9_node_87 rfl (lv_at hl 0 rfl) ?_
              refine lv_iload_n hx hb dX9_node_88 rfl (lv_at hl 3 rfl) ?_
              obtain ⟨q10, hq10, hf⟩ := obE hf
              refine ct_cVi (rest := [.ref (ad 0)]) (tX9_of hD hq10) hx hb hml hown ht hX hP hS wX9_of kML_RX9_63 rfl rfl ⟨Nat.le_of_ble_eq_true rfl, Nat.le_of_ble_eq_true rfl⟩ (va_recv hX.1 hP rfl mw_obj) rfl hl.1 rfl (Nat.le_of_ble_eq_true rfl) dX9_node_89 (fun H locs hP hS => ?_)
              obtain ⟨q11, hq11, hf⟩ := obE hf
              refine ct_cVi (rest := []) (tX9_numberAt hD hq11) hx hb hml hown ht hX hP hS wX9_numberAt kML_RX9_180 rfl rfl ⟨Nat.le_of_ble_eq_true rfl, Nat.le_of_ble_eq_true rfl⟩ (va_recv hX.1 hP rfl mw_obj) rfl hl.1 rfl (Nat.le_of_ble_eq_true rfl) dX9_node_92 (fun H locs hP hS => ?_)
              have e0 := Option.some.inj hf
              subst e0
              exact hret _ _ _ _ hP hS dX9_node_95
            · rw [if_neg hs4] at hf
              by_cases hs5 : x2 = (5 : Int32)
              · rw [if_pos hs5] at hf
                refine lv_tableIn (off := 73) (tgt := 96) hx hb dX9_node_23 (by rw [hs5]; decide) (by rw [hs5]; decide) (by rw [hs5]; rfl) (by decide) ?_
                refine lv_aload_n hx hb dX9_node_96 rfl (lv_at hl 1 rfl) ?_
                refine lv_iload_n hx hb dX9_node_97 rfl (lv_at hl 0 rfl) ?_
                obtain ⟨q12, hq12, hf⟩ := obE hf
                refine ct_cVi (rest := []) (tX9_sizeOf hD hq12) hx hb hml hown ht hX hP hS wX9_sizeOf kML_RX9_183 rfl rfl ⟨Nat.le_of_ble_eq_true rfl, Nat.le_of_ble_eq_true rfl⟩ (va_recv hX.1 hP rfl mw_obj) rfl hl.1 rfl (Nat.le_of_ble_eq_true rfl) dX9_node_98 (fun H locs hP hS => ?_)
                have e0 := Option.some.inj hf
                subst e0
                exact hret _ _ _ _ hP hS dX9_node_101
              · rw [if_neg hs5] at hf
                by_cases hs6 : x2 = (6 : Int32)
                · rw [if_pos hs6] at hf
                  refine lv_tableIn (off := 79) (tgt := 102) hx hb dX9_node_23 (by rw [hs6]; decide) (by rw [hs6]; decide) (by rw [hs6]; rfl) (by decide) ?_
                  refine lv_iload_n hx hb dX9_node_102 rfl (lv_at hl 0 rfl) ?_
                  refine lv_aload_n hx hb dX9_node_103 rfl (lv_at hl 1 rfl) ?_
                  obtain ⟨q13, hq13, hf⟩ := obE hf
                  refine ct_cVi (rest := [.int (q3.1 x1.toNatClampNeg)]) (tX9_top hD hq13) hx hb hml hown ht hX hP hS wX9_top kML_RX9_87 rfl rfl ⟨Nat.le_of_ble_eq_true rfl, Nat.le_of_ble_eq_true rfl⟩ (va_recv hX.1 hP rfl mw_obj) rfl hl.1 rfl (Nat.le_of_ble_eq_true rfl) dX9_node_104 (fun H locs hP hS => ?_)
                  refine lv_icmp_ne (tgt := 114) hx hb dX9_node_107 (by decide) (fun hc14 => ?_) (fun hc14 => ?_)
                  · rw [if_neg hc14] at hf
                    refine lv_aload_n hx hb dX9_node_114 rfl (lv_at hl 1 rfl) ?_
                    refine lv_aload_n hx hb dX9_node_115 rfl (lv_at hl 1 rfl) ?_
                    refine lv_iload_n hx hb dX9_node_116 rfl (lv_at hl 0 rfl) ?_
                    refine lv_iconst (v := (5 : Int32)) hx hb dX9_node_117 (by decide) ?_
                    obtain ⟨q15, hq15, hf⟩ := obE hf
                    refine ct_cVi (rest := [.ref (ad 0)]) (tX9_of hD hq15) hx hb hml hown ht hX hP hS wX9_of kML_RX9_63 rfl rfl ⟨Nat.le_of_ble_eq_true rfl, Nat.le_of_ble_eq_true rfl⟩ (va_recv hX.1 hP rfl mw_obj) rfl hl.1 rfl (Nat.le_of_ble_eq_true rfl) dX9_node_118 (fun H locs hP hS => ?_)
                    refine lv_iload_n hx hb dX9_node_121 rfl (lv_at hl 0 rfl) ?_
                    obtain ⟨q16, hq16, hf⟩ := obE hf
                    refine ct_cVi (rest := []) (tX9_step hD hq16) hx hb hml hown ht hX hP hS wX9_step kML_RX9_100 rfl rfl ⟨Nat.le_of_ble_eq_true rfl, Nat.le_of_ble_eq_true rfl⟩ (va_recv hX.1 hP rfl mw_obj) rfl hl.1 rfl (Nat.le_of_ble_eq_true rfl) dX9_node_122 (fun H locs hP hS => ?_)
                    have e0 := Option.some.inj hf
                    subst e0
                    exact hret _ _ _ _ hP hS dX9_node_125
                  · rw [if_pos hc14] at hf
                    refine lv_iconst (v := (-1 : Int32)) hx hb dX9_node_110 (by decide) ?_
                    refine lv_goto (tgt := 125) hx hb dX9_node_111 (by decide) ?_
                    have e0 := Option.some.inj hf
                    subst e0
                    exact hret _ _ _ _ hP hS dX9_node_125
                · rw [if_neg hs6] at hf
                  have hz0 : ¬ (x2).toInt = 0 := lv_neT hs0 (by decide)
                  have hz1 : ¬ (x2).toInt = 1 := lv_neT hs1 (by decide)
                  have hz2 : ¬ (x2).toInt = 2 := lv_neT hs2 (by decide)
                  have hz3 : ¬ (x2).toInt = 3 := lv_neT hs3 (by decide)
                  have hz4 : ¬ (x2).toInt = 4 := lv_neT hs4 (by decide)
                  have hz5 : ¬ (x2).toInt = 5 := lv_neT hs5 (by decide)
                  have hz6 : ¬ (x2).toInt = 6 := lv_neT hs6 (by decide)
                  refine lv_tableOut (tgt := 126) hx hb dX9_node_23 (by omega) (by decide) ?_
                  refine lv_ldc hx hb hown (ht _ kKI_RX9_171) dX9_node_126 ?_
                  have e0 := Option.some.inj hf
                  subst e0
                  exact hret _ _ _ _ hP hS dX9_node_128
  · rw [if_pos hc2] at hf
    refine lv_ldc hx hb hown (ht _ kKI_RX9_179) dX9_node_8 ?_
    have e0 := Option.some.inj hf
    subst e0
    exact hret _ _ _ _ hP hS dX9_node_10
def fX9_key_13 (F : Nat) (now : Nat → Int32) (order : Nat → Int32) (numof : Nat → Int32) (above : Nat → Int32) (pile : Nat → Int32) (x1 : Int32) (x2 : Int32) (y0 : Int32) : Option (Int32 × (Nat → Int32) × (Nat → Int32) × (Nat → Int32) × (Nat → Int32)) := if y0 = (-1 : Int32) then (some ((-1000000001 : Int32), order, numof, above, pile)) else ((fX9_numbers F now order numof above pile).bind fun q4 => (if x2 = 0 then ((fX9_of F now y0 (1 : Int32)).bind fun q10 => (some (q10, q4.1, q4.2.1, q4.2.2.1, q4.2.2.2))) else (if x2 = (1 : Int32) then (if y0 < 0 ∨ 60 ≤ y0.toNatClampNeg then none else (some (q4.2.1 y0.toNatClampNeg, q4.1, q4.2.1, q4.2.2.1, q4.2.2.2))) else (if x2 = (2 : Int32) then ((fX9_lessThan F now x1).bind fun q8 => (some (q8, q4.1, q4.2.1, q4.2.2.1, q4.2.2.2))) else (some ((-1000000002 : Int32), q4.1, q4.2.1, q4.2.2.1, q4.2.2.2))))))
def fX9_key (F : Nat) (now : Nat → Int32) (order : Nat → Int32) (numof : Nat → Int32) (above : Nat → Int32) (pile : Nat → Int32) (x1 : Int32) (x2 : Int32) : Option (Int32 × (Nat → Int32) × (Nat → Int32) × (Nat → Int32) × (Nat → Int32)) := if 0 ≤ x1 then ((fX9_find F now x1).bind fun q2 => (fX9_key_13 F now order numof above pile x1 x2 q2)) else (fX9_key_13 F now order numof above pile x1 x2 (-1 : Int32))
abbrev rX9_key : Room := { frames := 3, cells := 0, slots := 0, locals := 69 }
theorem wX9_key : kV yX9_key cX9_key 4 (some .int) 2 := ⟨kCO_yX9_key, kIM_yX9_key, kSE_yX9_key, kIN_RX9, by decide +kernel, by decide +kernel, by decide +kernel⟩
set_option maxHeartbeats 4000000 in
set_option maxRecDepth 100000 in
theorem tX9_key {l : Launch} {D : va_G} {cI cZ : ClassId} {ad : Nat → Nat} (hD : gInj 15 ad) {F : Nat} {un sd : Int32} {now past images iseed kept order numof above pile aside fewest deep keys worths : Nat → Int32} {x1 : Int32} {x2 : Int32} {res : Int32 × (Nat → Int32) × (Nat → Int32) × (Nat → Int32) × (Nat → Int32)} (hf : fX9_key F now order numof above pile x1 x2 = some res) : CTi l yX9_key cX9_key 4 .int rX9_key D (mTy cI cZ) (gA 15 ad) [.ref (ad 0), .int x1, .int x2] (mw cI cZ ad un sd now past images iseed kept order numof above pile aside fewest deep keys worths) res.1 (mw cI cZ ad un sd now past images iseed kept res.2.1 res.2.2.1 res.2.2.2.1 res.2.2.2.2 aside fewest deep keys worths) := by
  refine ct_int (by decide) (Nat.le_of_ble_eq_true rfl) ?_
  intro p e s m args below meth c Q ls hx hb hml hown ht hX hret hP hS hl
  have hl : lv_has ls 4 [(0, .ref (ad 0)), (1, .int x1), (2, .int x2)] := hl
  have blk13 : ∀ (H : Heap) (locs : List Loc) (order : Nat → Int32) (numof : Nat → Int32) (above : Nat → Int32) (pile : Nat → Int32) (x1 : Int32) (x2 : Int32) (y0 : Int32) (ls : Array Slot), va_P D vwCl (mw cI cZ ad un sd now past images iseed kept order numof above pile aside fewest deep keys worths) H → va_S (gA 15 ad) s.heap H locs → lv_has ls 4 [(0, .ref (ad 0)), (1, .int x1), (2, .int x2)] → fX9_key_13 F now order numof above pile x1 x2 y0 = some res → W p l e rX9_key s m args below meth c H locs 0 0 Q (F0 m 13 ls [.int y0]) := by
    intro H locs order numof above pile x1 x2 y0 ls hP hS hl hf
    unfold fX9_key_13 at hf
    refine lv_istore_n (lv' := [(3, .int y0), (0, .ref (ad 0)), (1, .int x1), (2, .int x2)]) hx hb dX9_key_13 rfl hl (by decide) rfl (fun ls hl => ?_)
    refine lv_iload_n hx hb dX9_key_14 rfl (lv_at hl 0 rfl) ?_
    refine lv_iconst (v := (-1 : Int32)) hx hb dX9_key_15 (by decide) ?_
    refine lv_icmp_ne (tgt := 22) hx hb dX9_key_16 (by decide) (fun hc3 => ?_) (fun hc3 => ?_)
    · rw [if_neg hc3] at hf
      refine lv_aload_n hx hb dX9_key_22 rfl (lv_at hl 1 rfl) ?_
      obtain ⟨q4, hq4, hf⟩ := obE hf
      refine ct_cVv (rest := []) (tX9_numbers hD hq4) hx hb hml hown ht hX hP hS wX9_numbers kML_RX9_131 rfl rfl ⟨Nat.le_of_ble_eq_true rfl, Nat.le_of_ble_eq_true rfl⟩ (va_recv hX.1 hP rfl mw_obj) rfl hl.1 rfl (Nat.le_of_ble_eq_true rfl) dX9_key_23 (fun H locs hP hS => ?_)
      refine lv_iload_n hx hb dX9_key_26 rfl (lv_at hl 3 rfl) ?_
      refine lv_if_ne (tgt := 39) hx hb dX9_key_27 (by decide) (fun hc5 => ?_) (fun hc5 => ?_)
      · rw [if_neg hc5] at hf
        refine lv_iload_n hx hb dX9_key_39 rfl (lv_at hl 3 rfl) ?_
        refine lv_iconst (v := (1 : Int32)) hx hb dX9_key_40 (by decide) ?_
        refine lv_icmp_ne (tgt := 53) hx hb dX9_key_41 (by decide) (fun hc6 => ?_) (fun hc6 => ?_)
        · rw [if_neg hc6] at hf
          refine lv_iload_n hx hb dX9_key_53 rfl (lv_at hl 3 rfl) ?_
          refine lv_iconst (v := (2 : Int32)) hx hb dX9_key_54 (by decide) ?_
          refine lv_icmp_ne (tgt := 66) hx hb dX9_key_55 (by decide) (fun hc7 => ?_) (fun hc7 => ?_)
          · rw [if_neg hc7] at hf
            refine lv_ldc hx hb hown (ht _ kKI_RX9_171) dX9_key_66 ?_
            have e0 := Option.some.inj hf
            subst e0
            exact hret _ _ _ _ hP hS dX9_key_68
          · rw [if_pos hc7] at hf
            refine lv_aload_n hx hb dX9_key_58 rfl (lv_at hl 1 rfl) ?_
            refine lv_iload_n hx hb dX9_key_59 rfl (lv_at hl 2 rfl) ?_
            obtain ⟨q8, hq8, hf⟩ := obE hf
            refine ct_cVi (rest := []) (tX9_lessThan hD hq8) hx hb hml hown ht hX hP hS wX9_lessThan kML_RX9_186 rfl rfl ⟨Nat.le_of_ble_eq_true rfl, Nat.le_of_ble_eq_true rfl⟩ (va_recv hX.1 hP rfl mw_obj) rfl hl.1 rfl (Nat.le_of_ble_eq_true rfl) dX9_key_60 (fun H locs hP hS => ?_)
            refine lv_goto (tgt := 68) hx hb dX9_key_63 (by decide) ?_
            have e0 := Option.some.inj hf
            subst e0
            exact hret _ _ _ _ hP hS dX9_key_68
        · rw [if_pos hc6] at hf
          refine lv_aload_n hx hb dX9_key_44 rfl (lv_at hl 1 rfl) ?_
          refine va_get (ci := 7) (v := .ref (ad 7)) hx hb ht i_X9 hown hX.1 hP 0 mw_obj rfl 8 (by decide) (ht _ kFL_RX9_29) (fun _ h9 => h9) rfl dX9_key_45 ?_
          refine lv_iload_n hx hb dX9_key_48 rfl (lv_at hl 0 rfl) ?_
          obtain ⟨hn9, hf⟩ := ngE _ hf
          refine va_iald hx hb hX.1 hP 7 0 mw_numof rfl hn9 dX9_key_49 ?_
          refine lv_goto (tgt := 68) hx hb dX9_key_50 (by decide) ?_
          have e0 := Option.some.inj hf
          subst e0
          exact hret _ _ _ _ hP hS dX9_key_68
      · rw [if_pos hc5] at hf
        refine lv_aload_n hx hb dX9_key_30 rfl (lv_at hl 1 rfl) ?_
        refine lv_iload_n hx hb dX9_key_31 rfl (lv_at hl 0 rfl) ?_
        refine lv_iconst (v := (1 : Int32)) hx hb dX9_key_32 (by decide) ?_
        obtain ⟨q10, hq10, hf⟩ := obE hf
        refine ct_cVi (rest := []) (tX9_of hD hq10) hx hb hml hown ht hX hP hS wX9_of kML_RX9_63 rfl rfl ⟨Nat.le_of_ble_eq_true rfl, Nat.le_of_ble_eq_true rfl⟩ (va_recv hX.1 hP rfl mw_obj) rfl hl.1 rfl (Nat.le_of_ble_eq_true rfl) dX9_key_33 (fun H locs hP hS => ?_)
        refine lv_goto (tgt := 68) hx hb dX9_key_36 (by decide) ?_
        have e0 := Option.some.inj hf
        subst e0
        exact hret _ _ _ _ hP hS dX9_key_68
    · rw [if_pos hc3] at hf
      refine lv_ldc hx hb hown (ht _ kKI_RX9_179) dX9_key_19 ?_
      have e0 := Option.some.inj hf
      subst e0
      exact hret _ _ _ _ hP hS dX9_key_21
  unfold fX9_key at hf
  refine lv_iload_n hx hb dX9_key_0 rfl (lv_at hl 1 rfl) ?_
  refine lv_if_ge (tgt := 8) hx hb dX9_key_1 (by decide) (fun hc1 => ?_) (fun hc1 => ?_)
  · rw [if_pos hc1] at hf
    refine lv_aload_n hx hb dX9_key_8 rfl (lv_at hl 0 rfl) ?_
    refine lv_iload_n hx hb dX9_key_9 rfl (lv_at hl 1 rfl) ?_
    obtain ⟨q2, hq2, hf⟩ := obE hf
    refine ct_cVi (rest := []) (tX9_find hD hq2) hx hb hml hown ht hX hP hS wX9_find kML_RX9_134 rfl rfl ⟨Nat.le_of_ble_eq_true rfl, Nat.le_of_ble_eq_true rfl⟩ (va_recv hX.1 hP rfl mw_obj) rfl hl.1 rfl (Nat.le_of_ble_eq_true rfl) dX9_key_10 (fun H locs hP hS => ?_)
    exact blk13 _ _ order numof above pile x1 x2 q2 ls hP hS (lv_sub hl [0, 1, 2] rfl) hf
  · rw [if_neg hc1] at hf
    refine lv_iconst (v := (-1 : Int32)) hx hb dX9_key_4 (by decide) ?_
    refine lv_goto (tgt := 13) hx hb dX9_key_5 (by decide) ?_
    exact blk13 _ _ order numof above pile x1 x2 (-1 : Int32) ls hP hS (lv_sub hl [0, 1, 2] rfl) hf
def fX9_at_32 (F : Nat) (now : Nat → Int32) (x1 : Int32) (x2 : Int32) : Option (Int32) := if 0 ≤ x1 then (some x2) else (some (-1 : Int32))
def fX9_at_9 (F : Nat) (now : Nat → Int32) : Nat → Int32 → Int32 → Int32 → Option (Int32)
  | 0, _, _, _ => none
  | n + 1, x1, x2, x3 => if x1 ≤ x3 then (fX9_at_32 F now x1 x2) else (if x2 = (-1 : Int32) then (fX9_at_32 F now x1 x2) else ((fX9_besideOf F now x2 (0 : Int32)).bind fun q4 => (fX9_at_9 F now n x1 q4 (x3 + (1 : Int32)))))
def fX9_at (F : Nat) (now : Nat → Int32) (x1 : Int32) : Option (Int32) := (fX9_besideOf F now (-1 : Int32) (0 : Int32)).bind fun q1 => (fX9_at_9 F now F x1 q1 (0 : Int32))
abbrev rX9_at : Room := { frames := 2, cells := 0, slots := 0, locals := 49 }
theorem wX9_at : kV yX9_at cX9_at 4 (some .int) 1 := ⟨kCO_yX9_at, kIM_yX9_at, kSE_yX9_at, kIN_RX9, by decide +kernel, by decide +kernel, by decide +kernel⟩
set_option maxHeartbeats 4000000 in
set_option maxRecDepth 100000 in
theorem tX9_at {l : Launch} {D : va_G} {cI cZ : ClassId} {ad : Nat → Nat} (hD : gInj 15 ad) {F : Nat} {un sd : Int32} {now past images iseed kept order numof above pile aside fewest deep keys worths : Nat → Int32} {x1 : Int32} {res : Int32} (hf : fX9_at F now x1 = some res) : CTi l yX9_at cX9_at 4 .int rX9_at D (mTy cI cZ) (gA 15 ad) [.ref (ad 0), .int x1] (mw cI cZ ad un sd now past images iseed kept order numof above pile aside fewest deep keys worths) res (mw cI cZ ad un sd now past images iseed kept order numof above pile aside fewest deep keys worths) := by
  refine ct_int (by decide) (Nat.le_of_ble_eq_true rfl) ?_
  intro p e s m args below meth c Q ls hx hb hml hown ht hX hret hP hS hl
  have hl : lv_has ls 4 [(0, .ref (ad 0)), (1, .int x1)] := hl
  have blk32 : ∀ (H : Heap) (locs : List Loc) (x1 : Int32) (x2 : Int32) (ls : Array Slot), va_P D vwCl (mw cI cZ ad un sd now past images iseed kept order numof above pile aside fewest deep keys worths) H → va_S (gA 15 ad) s.heap H locs → lv_has ls 4 [(1, .int x1), (2, .int x2)] → fX9_at_32 F now x1 x2 = some res → W p l e rX9_at s m args below meth c H locs 0 0 Q (F0 m 32 ls []) := by
    intro H locs x1 x2 ls hP hS hl hf
    unfold fX9_at_32 at hf
    refine lv_iload_n hx hb dX9_at_32 rfl (lv_at hl 0 rfl) ?_
    refine lv_if_ge (tgt := 40) hx hb dX9_at_33 (by decide) (fun hc5 => ?_) (fun hc5 => ?_)
    · rw [if_pos hc5] at hf
      refine lv_iload_n hx hb dX9_at_40 rfl (lv_at hl 1 rfl) ?_
      have e0 := Option.some.inj hf
      subst e0
      exact hret _ _ _ _ hP hS dX9_at_41
    · rw [if_neg hc5] at hf
      refine lv_iconst (v := (-1 : Int32)) hx hb dX9_at_36 (by decide) ?_
      refine lv_goto (tgt := 41) hx hb dX9_at_37 (by decide) ?_
      have e0 := Option.some.inj hf
      subst e0
      exact hret _ _ _ _ hP hS dX9_at_41
  have blk9 : ∀ (n9 : Nat) (H : Heap) (locs : List Loc) (x1 : Int32) (x2 : Int32) (x3 : Int32) (ls : Array Slot), va_P D vwCl (mw cI cZ ad un sd now past images iseed kept order numof above pile aside fewest deep keys worths) H → va_S (gA 15 ad) s.heap H locs → lv_has ls 4 [(0, .ref (ad 0)), (1, .int x1), (2, .int x2), (3, .int x3)] → fX9_at_9 F now n9 x1 x2 x3 = some res → W p l e rX9_at s m args below meth c H locs 0 0 Q (F0 m 9 ls []) := by
    intro n9
    induction n9 with
    | zero =>
      intro H locs x1 x2 x3 ls hP hS hl hf
      rw [fX9_at_9] at hf
      cases hf
    | succ n9 ih9 =>
      skip
      intro H locs x1 x2 x3 ls hP hS hl hf
      rw [fX9_at_9] at hf
      refine lv_iload_n hx hb dX9_at_9 rfl (lv_at hl 3 rfl) ?_
      refine lv_iload_n hx hb dX9_at_10 rfl (lv_at hl 1 rfl) ?_
      refine lv_icmp_ge (tgt := 32) hx hb dX9_at_11 (by decide) (fun hc2 => ?_) (fun hc2 => ?_)
      · rw [if_pos hc2] at hf
        exact blk32 _ _ x1 x2 ls hP hS (lv_sub hl [1, 2] rfl) hf
      · rw [if_neg hc2] at hf
        refine lv_iload_n hx hb dX9_at_14 rfl (lv_at hl 2 rfl) ?_
        refine lv_iconst (v := (-1 : Int32)) hx hb dX9_at_15 (by decide) ?_
        refine lv_icmp_eq (tgt := 32) hx hb dX9_at_16 (by decide) (fun hc3 => ?_) (fun hc3 => ?_)
        · rw [if_pos hc3] at hf
          exact blk32 _ _ x1 x2 ls hP hS (lv_sub hl [1, 2] rfl) hf
        · rw [if_neg hc3] at hf
          refine lv_aload_n hx hb dX9_at_19 rfl (lv_at hl 0 rfl) ?_
          refine lv_iload_n hx hb dX9_at_20 rfl (lv_at hl 2 rfl) ?_
          refine lv_iconst (v := (0 : Int32)) hx hb dX9_at_21 (by decide) ?_
          obtain ⟨q4, hq4, hf⟩ := obE hf
          refine ct_cVi (rest := []) (tX9_besideOf hD hq4) hx hb hml hown ht hX hP hS wX9_besideOf kML_RX9_140 rfl rfl ⟨Nat.le_of_ble_eq_true rfl, Nat.le_of_ble_eq_true rfl⟩ (va_recv hX.1 hP rfl mw_obj) rfl hl.1 rfl (Nat.le_of_ble_eq_true rfl) dX9_at_22 (fun H locs hP hS => ?_)
          refine lv_istore_n (lv' := [(2, .int q4), (0, .ref (ad 0)), (1, .int x1), (3, .int x3)]) hx hb dX9_at_25 rfl hl (by decide) rfl (fun ls hl => ?_)
          refine lv_iinc (v := x3 + (1 : Int32)) (lv' := [(3, .int (x3 + (1 : Int32))), (2, .int q4), (0, .ref (ad 0)), (1, .int x1)]) hx hb dX9_at_26 hl (k := 3) rfl rfl (by decide) rfl (fun ls hl => ?_)
          refine lv_goto (tgt := 9) hx hb dX9_at_29 (by decide) ?_
          exact ih9 _ _ x1 q4 (x3 + (1 : Int32)) ls hP hS (lv_sub hl [2, 3, 1, 0] rfl) hf
  unfold fX9_at at hf
  refine lv_aload_n hx hb dX9_at_0 rfl (lv_at hl 0 rfl) ?_
  refine lv_iconst (v := (-1 : Int32)) hx hb dX9_at_1 (by decide) ?_
  refine lv_iconst (v := (0 : Int32)) hx hb dX9_at_2 (by decide) ?_
  obtain ⟨q1, hq1, hf⟩ := obE hf
  refine ct_cVi (rest := []) (tX9_besideOf hD hq1) hx hb hml hown ht hX hP hS wX9_besideOf kML_RX9_140 rfl rfl ⟨Nat.le_of_ble_eq_true rfl, Nat.le_of_ble_eq_true rfl⟩ (va_recv hX.1 hP rfl mw_obj) rfl hl.1 rfl (Nat.le_of_ble_eq_true rfl) dX9_at_3 (fun H locs hP hS => ?_)
  refine lv_istore_n (lv' := [(2, .int q1), (0, .ref (ad 0)), (1, .int x1)]) hx hb dX9_at_6 rfl hl (by decide) rfl (fun ls hl => ?_)
  refine lv_iconst (v := (0 : Int32)) hx hb dX9_at_7 (by decide) ?_
  refine lv_istore_n (lv' := [(3, .int ((0 : Int32))), (2, .int q1), (0, .ref (ad 0)), (1, .int x1)]) hx hb dX9_at_8 rfl hl (by decide) rfl (fun ls hl => ?_)
  exact blk9 F _ _ x1 q1 (0 : Int32) ls hP hS (lv_sub hl [2, 3, 1, 0] rfl) hf
def fX9_save_52 (F : Nat) (now : Nat → Int32) : Nat → Int32 → (Nat → Int32) → Int32 → Option (Int32 × (Nat → Int32))
  | 0, _, _, _ => none
  | n + 1, un, past, x1 => if (368 : Int32) ≤ x1 then (some (un + (1 : Int32), past)) else (if x1 < 0 ∨ 368 ≤ x1.toNatClampNeg then none else (if (((368 : Int32) * un) + x1) < 0 ∨ 4416 ≤ (((368 : Int32) * un) + x1).toNatClampNeg then none else (fX9_save_52 F now n un (upd past (((368 : Int32) * un) + x1).toNatClampNeg (now x1.toNatClampNeg)) (x1 + (1 : Int32)))))
def fX9_save_50 (F : Nat) (now : Nat → Int32) (un : Int32) (past : Nat → Int32) : Option (Int32 × (Nat → Int32)) := fX9_save_52 F now F un past (0 : Int32)
def fX9_save_11 (F : Nat) (now : Nat → Int32) : Nat → Int32 → (Nat → Int32) → Int32 → Option (Int32 × (Nat → Int32))
  | 0, _, _, _ => none
  | n + 1, un, past, x1 => if (4048 : Int32) ≤ x1 then (fX9_save_50 F now (un - (1 : Int32)) past) else (if (x1 + (368 : Int32)) < 0 ∨ 4416 ≤ (x1 + (368 : Int32)).toNatClampNeg then none else (if x1 < 0 ∨ 4416 ≤ x1.toNatClampNeg then none else (fX9_save_11 F now n un (upd past x1.toNatClampNeg (past (x1 + (368 : Int32)).toNatClampNeg)) (x1 + (1 : Int32)))))
def fX9_save (F : Nat) (un : Int32) (now : Nat → Int32) (past : Nat → Int32) : Option (Int32 × (Nat → Int32)) := if un = (12 : Int32) then (fX9_save_11 F now F un past (0 : Int32)) else (fX9_save_50 F now un past)
abbrev rX9_save : Room := { frames := 0, cells := 0, slots := 0, locals := 0 }
theorem wX9_save : kV yX9_save cX9_save 2 none 0 := ⟨kCO_yX9_save, kIM_yX9_save, kSE_yX9_save, kIN_RX9, by decide +kernel, by decide +kernel, by decide +kernel⟩
set_option maxHeartbeats 4000000 in
set_option maxRecDepth 100000 in
theorem tX9_save {l : Launch} {D : va_G} {cI cZ : ClassId} {ad : Nat → Nat} (hD : gInj 15 ad) {F : Nat} {un sd : Int32} {now past images iseed kept order numof above pile aside fewest deep keys worths : Nat → Int32} {res : Int32 × (Nat → Int32)} (hf : fX9_save F un now past = some res) : CTv l yX9_save cX9_save 2 rX9_save D (mTy cI cZ) (gA 15 ad) [.ref (ad 0)] (mw cI cZ ad un sd now past images iseed kept order numof above pile aside fewest deep keys worths) (mw cI cZ ad res.1 sd now res.2 images iseed kept order numof above pile aside fewest deep keys worths) := by
  refine ct_void (by decide) (Nat.le_of_ble_eq_true rfl) ?_
  intro p e s m args below meth c Q ls hx hb hml hown ht hX hret hP hS hl
  have hl : lv_has ls 2 [(0, .ref (ad 0))] := hl
  have blk52 : ∀ (n52 : Nat) (H : Heap) (locs : List Loc) (un : Int32) (past : Nat → Int32) (x1 : Int32) (ls : Array Slot), va_P D vwCl (mw cI cZ ad un sd now past images iseed kept order numof above pile aside fewest deep keys worths) H → va_S (gA 15 ad) s.heap H locs → lv_has ls 2 [(0, .ref (ad 0)), (1, .int x1)] → fX9_save_52 F now n52 un past x1 = some res → W p l e rX9_save s m args below meth c H locs 0 0 Q (F0 m 52 ls []) := by
    intro n52
    induction n52 with
    | zero =>
      intro H locs un past x1 ls hP hS hl hf
      rw [fX9_save_52] at hf
      cases hf
    | succ n52 ih52 =>
      skip
      intro H locs un past x1 ls hP hS hl hf
      rw [fX9_save_52] at hf
      refine lv_iload_n hx hb dX9_save_52 rfl (lv_at hl 1 rfl) ?_
      refine lv_sipush (v := (368 : Int32)) hx hb dX9_save_53 (by decide) ?_
      refine lv_icmp_ge (tgt := 86) hx hb dX9_save_56 (by decide) (fun hc5 => ?_) (fun hc5 => ?_)
      · rw [if_pos hc5] at hf
        refine lv_aload_n hx hb dX9_save_86 rfl (lv_at hl 0 rfl) ?_
        refine lv_dup hx hb dX9_save_87 rfl ?_
        refine va_get (ci := 7) (v := .int un) hx hb ht i_X9 hown hX.1 hP 0 mw_obj rfl 2 (by decide) (ht _ kFL_RX9_167) (fun _ h9 => h9) rfl dX9_save_88 ?_
        refine lv_iconst (v := (1 : Int32)) hx hb dX9_save_91 (by decide) ?_
        refine lv_iadd hx hb dX9_save_92 ?_
        refine mr_putUn hD hx hb ht hown hX hP hS kFL_RX9_167 dX9_save_93 (fun H locs hP hS => ?_)
        have e0 := Option.some.inj hf
        subst e0
        exact hret _ _ _ _ hP hS dX9_save_96
      · rw [if_neg hc5] at hf
        refine lv_aload_n hx hb dX9_save_59 rfl (lv_at hl 0 rfl) ?_
        refine va_get (ci := 7) (v := .ref (ad 2)) hx hb ht i_X9 hown hX.1 hP 0 mw_obj rfl 1 (by decide) (ht _ kFL_RX9_13) (fun _ h9 => h9) rfl dX9_save_60 ?_
        refine lv_sipush (v := (368 : Int32)) hx hb dX9_save_63 (by decide) ?_
        refine lv_aload_n hx hb dX9_save_66 rfl (lv_at hl 0 rfl) ?_
        refine va_get (ci := 7) (v := .int un) hx hb ht i_X9 hown hX.1 hP 0 mw_obj rfl 2 (by decide) (ht _ kFL_RX9_167) (fun _ h9 => h9) rfl dX9_save_67 ?_
        refine lv_imul hx hb dX9_save_70 ?_
        refine lv_iload_n hx hb dX9_save_71 rfl (lv_at hl 1 rfl) ?_
        refine lv_iadd hx hb dX9_save_72 ?_
        refine lv_aload_n hx hb dX9_save_73 rfl (lv_at hl 0 rfl) ?_
        refine va_get (ci := 7) (v := .ref (ad 1)) hx hb ht i_X9 hown hX.1 hP 0 mw_obj rfl 0 (by decide) (ht _ kFL_RX9_7) (fun _ h9 => h9) rfl dX9_save_74 ?_
        refine lv_iload_n hx hb dX9_save_77 rfl (lv_at hl 1 rfl) ?_
        obtain ⟨hn6, hf⟩ := ngE _ hf
        refine va_iald hx hb hX.1 hP 1 0 mw_now rfl hn6 dX9_save_78 ?_
        obtain ⟨hn7, hf⟩ := ngE _ hf
        refine va_iast hx hb hX.1 hP (gw_D hD _) hS 2 0 mw_past rfl hn7 dX9_save_79 (fun H locs hP _ hS => ?_)
        rw [mw_set_past] at hP
        refine lv_iinc (v := x1 + (1 : Int32)) (lv' := [(1, .int (x1 + (1 : Int32))), (0, .ref (ad 0))]) hx hb dX9_save_80 hl (k := 1) rfl rfl (by decide) rfl (fun ls hl => ?_)
        refine lv_goto (tgt := 52) hx hb dX9_save_83 (by decide) ?_
        exact ih52 _ _ un (upd past (((368 : Int32) * un) + x1).toNatClampNeg (now x1.toNatClampNeg)) (x1 + (1 : Int32)) ls hP hS (lv_sub hl [1, 0] rfl) hf
  have blk50 : ∀ (H : Heap) (locs : List Loc) (un : Int32) (past : Nat → Int32) (ls : Array Slot), va_P D vwCl (mw cI cZ ad un sd now past images iseed kept order numof above pile aside fewest deep keys worths) H → va_S (gA 15 ad) s.heap H locs → lv_has ls 2 [(0, .ref (ad 0))] → fX9_save_50 F now un past = some res → W p l e rX9_save s m args below meth c H locs 0 0 Q (F0 m 50 ls []) := by
    intro H locs un past ls hP hS hl hf
    unfold fX9_save_50 at hf
    refine lv_iconst (v := (0 : Int32)) hx hb dX9_save_50 (by decide) ?_
    refine lv_istore_n (lv' := [(1, .int ((0 : Int32))), (0, .ref (ad 0))]) hx hb dX9_save_51 rfl hl (by decide) rfl (fun ls hl => ?_)
    exact blk52 F _ _ un past (0 : Int32) ls hP hS (lv_sub hl [1, 0] rfl) hf
  have blk11 : ∀ (n11 : Nat) (H : Heap) (locs : List Loc) (un : Int32) (past : Nat → Int32) (x1 : Int32) (ls : Array Slot), va_P D vwCl (mw cI cZ ad un sd now past images iseed kept order numof above pile aside fewest deep keys worths) H → va_S (gA 15 ad) s.heap H locs → lv_has ls 2 [(0, .ref (ad 0)), (1, .int x1)] → fX9_save_11 F now n11 un past x1 = some res → W p l e rX9_save s m args below meth c H locs 0 0 Q (F0 m 11 ls []) := by
    intro n11
    induction n11 with
    | zero =>
      intro H locs un past x1 ls hP hS hl hf
      rw [fX9_save_11] at hf
      cases hf
    | succ n11 ih11 =>
      skip
      intro H locs un past x1 ls hP hS hl hf
      rw [fX9_save_11] at hf
      refine lv_iload_n hx hb dX9_save_11 rfl (lv_at hl 1 rfl) ?_
      refine lv_sipush (v := (4048 : Int32)) hx hb dX9_save_12 (by decide) ?_
      refine lv_icmp_ge (tgt := 40) hx hb dX9_save_15 (by decide) (fun hc2 => ?_) (fun hc2 => ?_)
      · rw [if_pos hc2] at hf
        refine lv_aload_n hx hb dX9_save_40 rfl (lv_at hl 0 rfl) ?_
        refine lv_dup hx hb dX9_save_41 rfl ?_
        refine va_get (ci := 7) (v := .int un) hx hb ht i_X9 hown hX.1 hP 0 mw_obj rfl 2 (by decide) (ht _ kFL_RX9_167) (fun _ h9 => h9) rfl dX9_save_42 ?_
        refine lv_iconst (v := (1 : Int32)) hx hb dX9_save_45 (by decide) ?_
        refine lv_isub hx hb dX9_save_46 ?_
        refine mr_putUn hD hx hb ht hown hX hP hS kFL_RX9_167 dX9_save_47 (fun H locs hP hS => ?_)
        exact blk50 _ _ (un - (1 : Int32)) past ls hP hS (lv_sub hl [0] rfl) hf
      · rw [if_neg hc2] at hf
        refine lv_aload_n hx hb dX9_save_18 rfl (lv_at hl 0 rfl) ?_
        refine va_get (ci := 7) (v := .ref (ad 2)) hx hb ht i_X9 hown hX.1 hP 0 mw_obj rfl 1 (by decide) (ht _ kFL_RX9_13) (fun _ h9 => h9) rfl dX9_save_19 ?_
        refine lv_iload_n hx hb dX9_save_22 rfl (lv_at hl 1 rfl) ?_
        refine lv_aload_n hx hb dX9_save_23 rfl (lv_at hl 0 rfl) ?_
        refine va_get (ci := 7) (v := .ref (ad 2)) hx hb ht i_X9 hown hX.1 hP 0 mw_obj rfl 1 (by decide) (ht _ kFL_RX9_13) (fun _ h9 => h9) rfl dX9_save_24 ?_
        refine lv_iload_n hx hb dX9_save_27 rfl (lv_at hl 1 rfl) ?_
        refine lv_sipush (v := (368 : Int32)) hx hb dX9_save_28 (by decide) ?_
        refine lv_iadd hx hb dX9_save_31 ?_
        obtain ⟨hn3, hf⟩ := ngE _ hf
        refine va_iald hx hb hX.1 hP 2 0 mw_past rfl hn3 dX9_save_32 ?_
        obtain ⟨hn4, hf⟩ := ngE _ hf
        refine va_iast hx hb hX.1 hP (gw_D hD _) hS 2 0 mw_past rfl hn4 dX9_save_33 (fun H locs hP _ hS => ?_)
        rw [mw_set_past] at hP
        refine lv_iinc (v := x1 + (1 : Int32)) (lv' := [(1, .int (x1 + (1 : Int32))), (0, .ref (ad 0))]) hx hb dX9_save_34 hl (k := 1) rfl rfl (by decide) rfl (fun ls hl => ?_)
        refine lv_goto (tgt := 11) hx hb dX9_save_37 (by decide) ?_
        exact ih11 _ _ un (upd past x1.toNatClampNeg (past (x1 + (368 : Int32)).toNatClampNeg)) (x1 + (1 : Int32)) ls hP hS (lv_sub hl [1, 0] rfl) hf
  unfold fX9_save at hf
  refine lv_aload_n hx hb dX9_save_0 rfl (lv_at hl 0 rfl) ?_
  refine va_get (ci := 7) (v := .int un) hx hb ht i_X9 hown hX.1 hP 0 mw_obj rfl 2 (by decide) (ht _ kFL_RX9_167) (fun _ h9 => h9) rfl dX9_save_1 ?_
  refine lv_bipush (v := (12 : Int32)) hx hb dX9_save_4 (by decide) ?_
  refine lv_icmp_ne (tgt := 50) hx hb dX9_save_6 (by decide) (fun hc1 => ?_) (fun hc1 => ?_)
  · rw [if_neg hc1] at hf
    exact blk50 _ _ un past ls hP hS (lv_sub hl [0] rfl) hf
  · rw [if_pos hc1] at hf
    refine lv_iconst (v := (0 : Int32)) hx hb dX9_save_9 (by decide) ?_
    refine lv_istore_n (lv' := [(1, .int ((0 : Int32))), (0, .ref (ad 0))]) hx hb dX9_save_10 rfl hl (by decide) rfl (fun ls hl => ?_)
    exact blk11 F _ _ un past (0 : Int32) ls hP hS (lv_sub hl [1, 0] rfl) hf
def fX9_isKey (F : Nat) (x0 : Int32) : Option (Int32) := (fX9_in F x0.toInt64 (0 : Int64) (99999 : Int64)).bind fun q1 => (if q1 = 0 ∨ q1 = 1 then some q1 else none)
abbrev rX9_isKey : Room := { frames := 1, cells := 0, slots := 0, locals := 25 }
theorem wX9_isKey : kF yX9_isKey cX9_isKey 1 (some .boolean) 1 := ⟨kCO_yX9_isKey, kSM_yX9_isKey, kIN_RX9, by decide +kernel, by decide +kernel, by decide +kernel⟩
set_option maxHeartbeats 4000000 in
set_option maxRecDepth 100000 in
theorem tX9_isKey {l : Launch} {D : va_G} {cI cZ : ClassId} {ad : Nat → Nat} (hD : gInj 15 ad) {F : Nat} {un sd : Int32} {now past images iseed kept order numof above pile aside fewest deep keys worths : Nat → Int32} {x0 : Int32} {res : Int32} (hf : fX9_isKey F x0 = some res) : CTi l yX9_isKey cX9_isKey 1 .boolean rX9_isKey D (mTy cI cZ) (gA 15 ad) [.int x0] (mw cI cZ ad un sd now past images iseed kept order numof above pile aside fewest deep keys worths) res (mw cI cZ ad un sd now past images iseed kept order numof above pile aside fewest deep keys worths) := by
  refine ct_bool (by decide) (Nat.le_of_ble_eq_true rfl) ?_
  intro p e s m args below meth c Q ls hx hb hml hown ht hX hret hP hS hl
  have hl : lv_has ls 1 [(0, .int x0)] := hl
  unfold fX9_isKey at hf
  refine lv_iload_n hx hb dX9_isKey_0 rfl (lv_at hl 0 rfl) ?_
  refine lv_i2l (v := x0.toInt64) hx hb dX9_isKey_1 rfl ?_
  refine lv_lconst (v := (0 : Int64)) hx hb dX9_isKey_2 (by decide) ?_
  refine lv_ldc2 hx hb hown (ht _ kKJ_RX9_189) dX9_isKey_3 ?_
  obtain ⟨q1, hq1, hf⟩ := obE hf
  refine ct_cSi (rest := []) (tX9_in hD hq1) hx hb hml hown ht hX hP hS wX9_in kML_RX9_172 rfl rfl ⟨Nat.le_of_ble_eq_true rfl, Nat.le_of_ble_eq_true rfl⟩ rfl hl.1 rfl (Nat.le_of_ble_eq_true rfl) dX9_isKey_6 (fun H locs hP hS => ?_)
  obtain ⟨h01, hf⟩ := psE _ hf
  have e0 := Option.some.inj hf
  subst e0
  exact hret _ _ _ _ h01 hP hS dX9_isKey_9
def fX9_isThere (F : Nat) (now : Nat → Int32) (x1 : Int32) : Option (Int32) := (fX9_find F now x1).bind fun q1 => (if q1 = (-1 : Int32) then (some (0 : Int32)) else (some (1 : Int32)))
abbrev rX9_isThere : Room := { frames := 3, cells := 0, slots := 0, locals := 66 }
theorem wX9_isThere : kV yX9_isThere cX9_isThere 2 (some .boolean) 1 := ⟨kCO_yX9_isThere, kIM_yX9_isThere, kSE_yX9_isThere, kIN_RX9, by decide +kernel, by decide +kernel, by decide +kernel⟩
set_option maxHeartbeats 4000000 in
set_option maxRecDepth 100000 in
theorem tX9_isThere {l : Launch} {D : va_G} {cI cZ : ClassId} {ad : Nat → Nat} (hD : gInj 15 ad) {F : Nat} {un sd : Int32} {now past images iseed kept order numof above pile aside fewest deep keys worths : Nat → Int32} {x1 : Int32} {res : Int32} (hf : fX9_isThere F now x1 = some res) : CTi l yX9_isThere cX9_isThere 2 .boolean rX9_isThere D (mTy cI cZ) (gA 15 ad) [.ref (ad 0), .int x1] (mw cI cZ ad un sd now past images iseed kept order numof above pile aside fewest deep keys worths) res (mw cI cZ ad un sd now past images iseed kept order numof above pile aside fewest deep keys worths) := by
  refine ct_bool (by decide) (Nat.le_of_ble_eq_true rfl) ?_
  intro p e s m args below meth c Q ls hx hb hml hown ht hX hret hP hS hl
  have hl : lv_has ls 2 [(0, .ref (ad 0)), (1, .int x1)] := hl
  unfold fX9_isThere at hf
  refine lv_aload_n hx hb dX9_isThere_0 rfl (lv_at hl 0 rfl) ?_
  refine lv_iload_n hx hb dX9_isThere_1 rfl (lv_at hl 1 rfl) ?_
  obtain ⟨q1, hq1, hf⟩ := obE hf
  refine ct_cVi (rest := []) (tX9_find hD hq1) hx hb hml hown ht hX hP hS wX9_find kML_RX9_134 rfl rfl ⟨Nat.le_of_ble_eq_true rfl, Nat.le_of_ble_eq_true rfl⟩ (va_recv hX.1 hP rfl mw_obj) rfl hl.1 rfl (Nat.le_of_ble_eq_true rfl) dX9_isThere_2 (fun H locs hP hS => ?_)
  refine lv_iconst (v := (-1 : Int32)) hx hb dX9_isThere_5 (by decide) ?_
  refine lv_icmp_eq (tgt := 13) hx hb dX9_isThere_6 (by decide) (fun hc2 => ?_) (fun hc2 => ?_)
  · rw [if_pos hc2] at hf
    refine lv_iconst (v := (0 : Int32)) hx hb dX9_isThere_13 (by decide) ?_
    have e0 := Option.some.inj hf
    subst e0
    exact hret _ _ _ _ (Or.inl rfl) hP hS dX9_isThere_14
  · rw [if_neg hc2] at hf
    refine lv_iconst (v := (1 : Int32)) hx hb dX9_isThere_9 (by decide) ?_
    refine lv_goto (tgt := 14) hx hb dX9_isThere_10 (by decide) ?_
    have e0 := Option.some.inj hf
    subst e0
    exact hret _ _ _ _ (Or.inr rfl) hP hS dX9_isThere_14
def fX9_put (F : Nat) (un : Int32) (now : Nat → Int32) (past : Nat → Int32) (x1 : Int32) (x2 : Int32) : Option (Int32 × Int32 × (Nat → Int32) × (Nat → Int32)) := (fX9_isKey F x1).bind fun q1 => (if q1 = 0 then (some ((-1000000002 : Int32), un, now, past)) else ((fX9_in F x2.toInt64 (0 : Int64) (9999 : Int64)).bind fun q3 => (if q3 = 0 then (some ((-1000000002 : Int32), un, now, past)) else ((fX9_isThere F now x1).bind fun q5 => (if q5 = 0 then ((fX9_many F now).bind fun q7 => (if q7 = (60 : Int32) then (some ((-1000000004 : Int32), un, now, past)) else ((fX9_save F un now past).bind fun q9 => ((fX9_puts F now x1 x2).bind fun q10 => (if (367 : Int32) < 0 ∨ 368 ≤ (367 : Int32).toNatClampNeg then none else (some (q10 (367 : Int32).toNatClampNeg, q9.1, q10, q9.2))))))) else (some ((-1000000003 : Int32), un, now, past)))))))
abbrev rX9_put : Room := { frames := 6, cells := 0, slots := 0, locals := 145 }
theorem wX9_put : kV yX9_put cX9_put 3 (some .int) 2 := ⟨kCO_yX9_put, kIM_yX9_put, kSE_yX9_put, kIN_RX9, by decide +kernel, by decide +kernel, by decide +kernel⟩
set_option maxHeartbeats 4000000 in
set_option maxRecDepth 100000 in
theorem tX9_put {l : Launch} {D : va_G} {cI cZ : ClassId} {ad : Nat → Nat} (hD : gInj 15 ad) {F : Nat} {un sd : Int32} {now past images iseed kept order numof above pile aside fewest deep keys worths : Nat → Int32} {x1 : Int32} {x2 : Int32} {res : Int32 × Int32 × (Nat → Int32) × (Nat → Int32)} (hf : fX9_put F un now past x1 x2 = some res) : CTi l yX9_put cX9_put 3 .int rX9_put D (mTy cI cZ) (gA 15 ad) [.ref (ad 0), .int x1, .int x2] (mw cI cZ ad un sd now past images iseed kept order numof above pile aside fewest deep keys worths) res.1 (mw cI cZ ad res.2.1 sd res.2.2.1 res.2.2.2 images iseed kept order numof above pile aside fewest deep keys worths) := by
  refine ct_int (by decide) (Nat.le_of_ble_eq_true rfl) ?_
  intro p e s m args below meth c Q ls hx hb hml hown ht hX hret hP hS hl
  have hl : lv_has ls 3 [(0, .ref (ad 0)), (1, .int x1), (2, .int x2)] := hl
  unfold fX9_put at hf
  refine lv_iload_n hx hb dX9_put_0 rfl (lv_at hl 1 rfl) ?_
  obtain ⟨q1, hq1, hf⟩ := obE hf
  refine ct_cSi (rest := []) (tX9_isKey hD hq1) hx hb hml hown ht hX hP hS wX9_isKey kML_RX9_191 rfl rfl ⟨Nat.le_of_ble_eq_true rfl, Nat.le_of_ble_eq_true rfl⟩ rfl hl.1 rfl (Nat.le_of_ble_eq_true rfl) dX9_put_1 (fun H locs hP hS => ?_)
  refine lv_if_eq (tgt := 19) hx hb dX9_put_4 (by decide) (fun hc2 => ?_) (fun hc2 => ?_)
  · rw [if_pos hc2] at hf
    refine lv_ldc hx hb hown (ht _ kKI_RX9_171) dX9_put_19 ?_
    have e0 := Option.some.inj hf
    subst e0
    exact hret _ _ _ _ hP hS dX9_put_21
  · rw [if_neg hc2] at hf
    refine lv_iload_n hx hb dX9_put_7 rfl (lv_at hl 2 rfl) ?_
    refine lv_i2l (v := x2.toInt64) hx hb dX9_put_8 rfl ?_
    refine lv_lconst (v := (0 : Int64)) hx hb dX9_put_9 (by decide) ?_
    refine lv_ldc2 hx hb hown (ht _ kKJ_RX9_194) dX9_put_10 ?_
    obtain ⟨q3, hq3, hf⟩ := obE hf
    refine ct_cSi (rest := []) (tX9_in hD hq3) hx hb hml hown ht hX hP hS wX9_in kML_RX9_172 rfl rfl ⟨Nat.le_of_ble_eq_true rfl, Nat.le_of_ble_eq_true rfl⟩ rfl hl.1 rfl (Nat.le_of_ble_eq_true rfl) dX9_put_13 (fun H locs hP hS => ?_)
    refine lv_if_ne (tgt := 22) hx hb dX9_put_16 (by decide) (fun hc4 => ?_) (fun hc4 => ?_)
    · rw [if_neg hc4] at hf
      refine lv_aload_n hx hb dX9_put_22 rfl (lv_at hl 0 rfl) ?_
      refine lv_iload_n hx hb dX9_put_23 rfl (lv_at hl 1 rfl) ?_
      obtain ⟨q5, hq5, hf⟩ := obE hf
      refine ct_cVi (rest := []) (tX9_isThere hD hq5) hx hb hml hown ht hX hP hS wX9_isThere kML_RX9_196 rfl rfl ⟨Nat.le_of_ble_eq_true rfl, Nat.le_of_ble_eq_true rfl⟩ (va_recv hX.1 hP rfl mw_obj) rfl hl.1 rfl (Nat.le_of_ble_eq_true rfl) dX9_put_24 (fun H locs hP hS => ?_)
      refine lv_if_eq (tgt := 33) hx hb dX9_put_27 (by decide) (fun hc6 => ?_) (fun hc6 => ?_)
      · rw [if_pos hc6] at hf
        refine lv_aload_n hx hb dX9_put_33 rfl (lv_at hl 0 rfl) ?_
        obtain ⟨q7, hq7, hf⟩ := obE hf
        refine ct_cVi (rest := []) (tX9_many hD hq7) hx hb hml hown ht hX hP hS wX9_many kML_RX9_128 rfl rfl ⟨Nat.le_of_ble_eq_true rfl, Nat.le_of_ble_eq_true rfl⟩ (va_recv hX.1 hP rfl mw_obj) rfl hl.1 rfl (Nat.le_of_ble_eq_true rfl) dX9_put_34 (fun H locs hP hS => ?_)
        refine lv_bipush (v := (60 : Int32)) hx hb dX9_put_37 (by decide) ?_
        refine lv_icmp_ne (tgt := 45) hx hb dX9_put_39 (by decide) (fun hc8 => ?_) (fun hc8 => ?_)
        · rw [if_neg hc8] at hf
          refine lv_aload_n hx hb dX9_put_45 rfl (lv_at hl 0 rfl) ?_
          obtain ⟨q9, hq9, hf⟩ := obE hf
          refine ct_cVv (rest := []) (tX9_save hD hq9) hx hb hml hown ht hX hP hS wX9_save kML_RX9_201 rfl rfl ⟨Nat.le_of_ble_eq_true rfl, Nat.le_of_ble_eq_true rfl⟩ (va_recv hX.1 hP rfl mw_obj) rfl hl.1 rfl (Nat.le_of_ble_eq_true rfl) dX9_put_46 (fun H locs hP hS => ?_)
          refine lv_aload_n hx hb dX9_put_49 rfl (lv_at hl 0 rfl) ?_
          refine lv_iload_n hx hb dX9_put_50 rfl (lv_at hl 1 rfl) ?_
          refine lv_iload_n hx hb dX9_put_51 rfl (lv_at hl 2 rfl) ?_
          obtain ⟨q10, hq10, hf⟩ := obE hf
          refine ct_cVv (rest := []) (tX9_puts hD hq10) hx hb hml hown ht hX hP hS wX9_puts kML_RX9_204 rfl rfl ⟨Nat.le_of_ble_eq_true rfl, Nat.le_of_ble_eq_true rfl⟩ (va_recv hX.1 hP rfl mw_obj) rfl hl.1 rfl (Nat.le_of_ble_eq_true rfl) dX9_put_52 (fun H locs hP hS => ?_)
          refine lv_aload_n hx hb dX9_put_55 rfl (lv_at hl 0 rfl) ?_
          refine va_get (ci := 7) (v := .ref (ad 1)) hx hb ht i_X9 hown hX.1 hP 0 mw_obj rfl 0 (by decide) (ht _ kFL_RX9_7) (fun _ h9 => h9) rfl dX9_put_56 ?_
          refine lv_sipush (v := (367 : Int32)) hx hb dX9_put_59 (by decide) ?_
          obtain ⟨hn11, hf⟩ := ngE _ hf
          refine va_iald hx hb hX.1 hP 1 0 mw_now rfl hn11 dX9_put_62 ?_
          have e0 := Option.some.inj hf
          subst e0
          exact hret _ _ _ _ hP hS dX9_put_63
        · rw [if_pos hc8] at hf
          refine lv_ldc hx hb hown (ht _ kKI_RX9_200) dX9_put_42 ?_
          have e0 := Option.some.inj hf
          subst e0
          exact hret _ _ _ _ hP hS dX9_put_44
      · rw [if_neg hc6] at hf
        refine lv_ldc hx hb hown (ht _ kKI_RX9_199) dX9_put_30 ?_
        have e0 := Option.some.inj hf
        subst e0
        exact hret _ _ _ _ hP hS dX9_put_32
    · rw [if_pos hc4] at hf
      refine lv_ldc hx hb hown (ht _ kKI_RX9_171) dX9_put_19 ?_
      have e0 := Option.some.inj hf
      subst e0
      exact hret _ _ _ _ hP hS dX9_put_21
def fX9_take (F : Nat) (un : Int32) (now : Nat → Int32) (past : Nat → Int32) (x1 : Int32) : Option (Int32 × Int32 × (Nat → Int32) × (Nat → Int32)) := (fX9_isKey F x1).bind fun q1 => (if q1 = 0 then (some ((-1000000002 : Int32), un, now, past)) else ((fX9_find F now x1).bind fun q3 => (if q3 = (-1 : Int32) then (some ((-1000000003 : Int32), un, now, past)) else ((fX9_of F now q3 (1 : Int32)).bind fun q5 => ((fX9_save F un now past).bind fun q6 => ((fX9_takes F now q3).bind fun q7 => (some (q5, q6.1, q7, q6.2))))))))
abbrev rX9_take : Room := { frames := 6, cells := 0, slots := 0, locals := 148 }
theorem wX9_take : kV yX9_take cX9_take 4 (some .int) 1 := ⟨kCO_yX9_take, kIM_yX9_take, kSE_yX9_take, kIN_RX9, by decide +kernel, by decide +kernel, by decide +kernel⟩
set_option maxHeartbeats 4000000 in
set_option maxRecDepth 100000 in
theorem tX9_take {l : Launch} {D : va_G} {cI cZ : ClassId} {ad : Nat → Nat} (hD : gInj 15 ad) {F : Nat} {un sd : Int32} {now past images iseed kept order numof above pile aside fewest deep keys worths : Nat → Int32} {x1 : Int32} {res : Int32 × Int32 × (Nat → Int32) × (Nat → Int32)} (hf : fX9_take F un now past x1 = some res) : CTi l yX9_take cX9_take 4 .int rX9_take D (mTy cI cZ) (gA 15 ad) [.ref (ad 0), .int x1] (mw cI cZ ad un sd now past images iseed kept order numof above pile aside fewest deep keys worths) res.1 (mw cI cZ ad res.2.1 sd res.2.2.1 res.2.2.2 images iseed kept order numof above pile aside fewest deep keys worths) := by
  refine ct_int (by decide) (Nat.le_of_ble_eq_true rfl) ?_
  intro p e s m args below meth c Q ls hx hb hml hown ht hX hret hP hS hl
  have hl : lv_has ls 4 [(0, .ref (ad 0)), (1, .int x1)] := hl
  unfold fX9_take at hf
  refine lv_iload_n hx hb dX9_take_0 rfl (lv_at hl 1 rfl) ?_
  obtain ⟨q1, hq1, hf⟩ := obE hf
  refine ct_cSi (rest := []) (tX9_isKey hD hq1) hx hb hml hown ht hX hP hS wX9_isKey kML_RX9_191 rfl rfl ⟨Nat.le_of_ble_eq_true rfl, Nat.le_of_ble_eq_true rfl⟩ rfl hl.1 rfl (Nat.le_of_ble_eq_true rfl) dX9_take_1 (fun H locs hP hS => ?_)
  refine lv_if_ne (tgt := 10) hx hb dX9_take_4 (by decide) (fun hc2 => ?_) (fun hc2 => ?_)
  · rw [if_neg hc2] at hf
    refine lv_aload_n hx hb dX9_take_10 rfl (lv_at hl 0 rfl) ?_
    refine lv_iload_n hx hb dX9_take_11 rfl (lv_at hl 1 rfl) ?_
    obtain ⟨q3, hq3, hf⟩ := obE hf
    refine ct_cVi (rest := []) (tX9_find hD hq3) hx hb hml hown ht hX hP hS wX9_find kML_RX9_134 rfl rfl ⟨Nat.le_of_ble_eq_true rfl, Nat.le_of_ble_eq_true rfl⟩ (va_recv hX.1 hP rfl mw_obj) rfl hl.1 rfl (Nat.le_of_ble_eq_true rfl) dX9_take_12 (fun H locs hP hS => ?_)
    refine lv_istore_n (lv' := [(2, .int q3), (0, .ref (ad 0)), (1, .int x1)]) hx hb dX9_take_15 rfl hl (by decide) rfl (fun ls hl => ?_)
    refine lv_iload_n hx hb dX9_take_16 rfl (lv_at hl 0 rfl) ?_
    refine lv_iconst (v := (-1 : Int32)) hx hb dX9_take_17 (by decide) ?_
    refine lv_icmp_ne (tgt := 24) hx hb dX9_take_18 (by decide) (fun hc4 => ?_) (fun hc4 => ?_)
    · rw [if_neg hc4] at hf
      refine lv_aload_n hx hb dX9_take_24 rfl (lv_at hl 1 rfl) ?_
      refine lv_iload_n hx hb dX9_take_25 rfl (lv_at hl 0 rfl) ?_
      refine lv_iconst (v := (1 : Int32)) hx hb dX9_take_26 (by decide) ?_
      obtain ⟨q5, hq5, hf⟩ := obE hf
      refine ct_cVi (rest := []) (tX9_of hD hq5) hx hb hml hown ht hX hP hS wX9_of kML_RX9_63 rfl rfl ⟨Nat.le_of_ble_eq_true rfl, Nat.le_of_ble_eq_true rfl⟩ (va_recv hX.1 hP rfl mw_obj) rfl hl.1 rfl (Nat.le_of_ble_eq_true rfl) dX9_take_27 (fun H locs hP hS => ?_)
      refine lv_istore_n (lv' := [(3, .int q5), (2, .int q3), (0, .ref (ad 0)), (1, .int x1)]) hx hb dX9_take_30 rfl hl (by decide) rfl (fun ls hl => ?_)
      refine lv_aload_n hx hb dX9_take_31 rfl (lv_at hl 2 rfl) ?_
      obtain ⟨q6, hq6, hf⟩ := obE hf
      refine ct_cVv (rest := []) (tX9_save hD hq6) hx hb hml hown ht hX hP hS wX9_save kML_RX9_201 rfl rfl ⟨Nat.le_of_ble_eq_true rfl, Nat.le_of_ble_eq_true rfl⟩ (va_recv hX.1 hP rfl mw_obj) rfl hl.1 rfl (Nat.le_of_ble_eq_true rfl) dX9_take_32 (fun H locs hP hS => ?_)
      refine lv_aload_n hx hb dX9_take_35 rfl (lv_at hl 2 rfl) ?_
      refine lv_iload_n hx hb dX9_take_36 rfl (lv_at hl 1 rfl) ?_
      obtain ⟨q7, hq7, hf⟩ := obE hf
      refine ct_cVv (rest := []) (tX9_takes hD hq7) hx hb hml hown ht hX hP hS wX9_takes kML_RX9_137 rfl rfl ⟨Nat.le_of_ble_eq_true rfl, Nat.le_of_ble_eq_true rfl⟩ (va_recv hX.1 hP rfl mw_obj) rfl hl.1 rfl (Nat.le_of_ble_eq_true rfl) dX9_take_37 (fun H locs hP hS => ?_)
      refine lv_iload_n hx hb dX9_take_40 rfl (lv_at hl 0 rfl) ?_
      have e0 := Option.some.inj hf
      subst e0
      exact hret _ _ _ _ hP hS dX9_take_41
    · rw [if_pos hc4] at hf
      refine lv_ldc hx hb hown (ht _ kKI_RX9_199) dX9_take_21 ?_
      have e0 := Option.some.inj hf
      subst e0
      exact hret _ _ _ _ hP hS dX9_take_23
  · rw [if_pos hc2] at hf
    refine lv_ldc hx hb hown (ht _ kKI_RX9_171) dX9_take_7 ?_
    have e0 := Option.some.inj hf
    subst e0
    exact hret _ _ _ _ hP hS dX9_take_9
def fX9_worth_13 (F : Nat) (un : Int32) (now : Nat → Int32) (past : Nat → Int32) (x2 : Int32) (y0 : Int32) : Option (Int32 × Int32 × (Nat → Int32) × (Nat → Int32)) := if y0 = (-1 : Int32) then (some ((-1000000001 : Int32), un, now, past)) else ((fX9_in F x2.toInt64 (0 : Int64) (9999 : Int64)).bind fun q4 => (if q4 = 0 then (some ((-1000000002 : Int32), un, now, past)) else ((fX9_of F now y0 (1 : Int32)).bind fun q6 => ((fX9_save F un now past).bind fun q7 => ((fX9_lays F now y0 (1 : Int32) x2).bind fun q8 => (some (q6, q7.1, q8, q7.2)))))))
def fX9_worth (F : Nat) (un : Int32) (now : Nat → Int32) (past : Nat → Int32) (x1 : Int32) (x2 : Int32) : Option (Int32 × Int32 × (Nat → Int32) × (Nat → Int32)) := if 0 ≤ x1 then ((fX9_find F now x1).bind fun q2 => (fX9_worth_13 F un now past x2 q2)) else (fX9_worth_13 F un now past x2 (-1 : Int32))
abbrev rX9_worth : Room := { frames := 3, cells := 0, slots := 0, locals := 66 }
theorem wX9_worth : kV yX9_worth cX9_worth 5 (some .int) 2 := ⟨kCO_yX9_worth, kIM_yX9_worth, kSE_yX9_worth, kIN_RX9, by decide +kernel, by decide +kernel, by decide +kernel⟩
set_option maxHeartbeats 4000000 in
set_option maxRecDepth 100000 in
theorem tX9_worth {l : Launch} {D : va_G} {cI cZ : ClassId} {ad : Nat → Nat} (hD : gInj 15 ad) {F : Nat} {un sd : Int32} {now past images iseed kept order numof above pile aside fewest deep keys worths : Nat → Int32} {x1 : Int32} {x2 : Int32} {res : Int32 × Int32 × (Nat → Int32) × (Nat → Int32)} (hf : fX9_worth F un now past x1 x2 = some res) : CTi l yX9_worth cX9_worth 5 .int rX9_worth D (mTy cI cZ) (gA 15 ad) [.ref (ad 0), .int x1, .int x2] (mw cI cZ ad un sd now past images iseed kept order numof above pile aside fewest deep keys worths) res.1 (mw cI cZ ad res.2.1 sd res.2.2.1 res.2.2.2 images iseed kept order numof above pile aside fewest deep keys worths) := by
  refine ct_int (by decide) (Nat.le_of_ble_eq_true rfl) ?_
  intro p e s m args below meth c Q ls hx hb hml hown ht hX hret hP hS hl
  have hl : lv_has ls 5 [(0, .ref (ad 0)), (1, .int x1), (2, .int x2)] := hl
  have blk13 : ∀ (H : Heap) (locs : List Loc) (un : Int32) (now : Nat → Int32) (past : Nat → Int32) (x2 : Int32) (y0 : Int32) (ls : Array Slot), va_P D vwCl (mw cI cZ ad un sd now past images iseed kept order numof above pile aside fewest deep keys worths) H → va_S (gA 15 ad) s.heap H locs → lv_has ls 5 [(0, .ref (ad 0)), (2, .int x2)] → fX9_worth_13 F un now past x2 y0 = some res → W p l e rX9_worth s m args below meth c H locs 0 0 Q (F0 m 13 ls [.int y0]) := by
    intro H locs un now past x2 y0 ls hP hS hl hf
    unfold fX9_worth_13 at hf
    refine lv_istore_n (lv' := [(3, .int y0), (0, .ref (ad 0)), (2, .int x2)]) hx hb dX9_worth_13 rfl hl (by decide) rfl (fun ls hl => ?_)
    refine lv_iload_n hx hb dX9_worth_14 rfl (lv_at hl 0 rfl) ?_
    refine lv_iconst (v := (-1 : Int32)) hx hb dX9_worth_15 (by decide) ?_
    refine lv_icmp_ne (tgt := 22) hx hb dX9_worth_16 (by decide) (fun hc3 => ?_) (fun hc3 => ?_)
    · rw [if_neg hc3] at hf
      refine lv_iload_n hx hb dX9_worth_22 rfl (lv_at hl 2 rfl) ?_
      refine lv_i2l (v := x2.toInt64) hx hb dX9_worth_23 rfl ?_
      refine lv_lconst (v := (0 : Int64)) hx hb dX9_worth_24 (by decide) ?_
      refine lv_ldc2 hx hb hown (ht _ kKJ_RX9_194) dX9_worth_25 ?_
      obtain ⟨q4, hq4, hf⟩ := obE hf
      refine ct_cSi (rest := []) (tX9_in hD hq4) hx hb hml hown ht hX hP hS wX9_in kML_RX9_172 rfl rfl ⟨Nat.le_of_ble_eq_true rfl, Nat.le_of_ble_eq_true rfl⟩ rfl hl.1 rfl (Nat.le_of_ble_eq_true rfl) dX9_worth_28 (fun H locs hP hS => ?_)
      refine lv_if_ne (tgt := 37) hx hb dX9_worth_31 (by decide) (fun hc5 => ?_) (fun hc5 => ?_)
      · rw [if_neg hc5] at hf
        refine lv_aload_n hx hb dX9_worth_37 rfl (lv_at hl 1 rfl) ?_
        refine lv_iload_n hx hb dX9_worth_38 rfl (lv_at hl 0 rfl) ?_
        refine lv_iconst (v := (1 : Int32)) hx hb dX9_worth_39 (by decide) ?_
        obtain ⟨q6, hq6, hf⟩ := obE hf
        refine ct_cVi (rest := []) (tX9_of hD hq6) hx hb hml hown ht hX hP hS wX9_of kML_RX9_63 rfl rfl ⟨Nat.le_of_ble_eq_true rfl, Nat.le_of_ble_eq_true rfl⟩ (va_recv hX.1 hP rfl mw_obj) rfl hl.1 rfl (Nat.le_of_ble_eq_true rfl) dX9_worth_40 (fun H locs hP hS => ?_)
        refine lv_istore (lv' := [(4, .int q6), (3, .int y0), (0, .ref (ad 0)), (2, .int x2)]) hx hb dX9_worth_43 hl (by decide) rfl (fun ls hl => ?_)
        refine lv_aload_n hx hb dX9_worth_45 rfl (lv_at hl 2 rfl) ?_
        obtain ⟨q7, hq7, hf⟩ := obE hf
        refine ct_cVv (rest := []) (tX9_save hD hq7) hx hb hml hown ht hX hP hS wX9_save kML_RX9_201 rfl rfl ⟨Nat.le_of_ble_eq_true rfl, Nat.le_of_ble_eq_true rfl⟩ (va_recv hX.1 hP rfl mw_obj) rfl hl.1 rfl (Nat.le_of_ble_eq_true rfl) dX9_worth_46 (fun H locs hP hS => ?_)
        refine lv_aload_n hx hb dX9_worth_49 rfl (lv_at hl 2 rfl) ?_
        refine lv_iload_n hx hb dX9_worth_50 rfl (lv_at hl 1 rfl) ?_
        refine lv_iconst (v := (1 : Int32)) hx hb dX9_worth_51 (by decide) ?_
        refine lv_iload_n hx hb dX9_worth_52 rfl (lv_at hl 3 rfl) ?_
        obtain ⟨q8, hq8, hf⟩ := obE hf
        refine ct_cVv (rest := []) (tX9_lays hD hq8) hx hb hml hown ht hX hP hS wX9_lays kML_RX9_56 rfl rfl ⟨Nat.le_of_ble_eq_true rfl, Nat.le_of_ble_eq_true rfl⟩ (va_recv hX.1 hP rfl mw_obj) rfl hl.1 rfl (Nat.le_of_ble_eq_true rfl) dX9_worth_53 (fun H locs hP hS => ?_)
        refine lv_iload hx hb dX9_worth_56 (lv_at hl 0 rfl) ?_
        have e0 := Option.some.inj hf
        subst e0
        exact hret _ _ _ _ hP hS dX9_worth_58
      · rw [if_pos hc5] at hf
        refine lv_ldc hx hb hown (ht _ kKI_RX9_171) dX9_worth_34 ?_
        have e0 := Option.some.inj hf
        subst e0
        exact hret _ _ _ _ hP hS dX9_worth_36
    · rw [if_pos hc3] at hf
      refine lv_ldc hx hb hown (ht _ kKI_RX9_179) dX9_worth_19 ?_
      have e0 := Option.some.inj hf
      subst e0
      exact hret _ _ _ _ hP hS dX9_worth_21
  unfold fX9_worth at hf
  refine lv_iload_n hx hb dX9_worth_0 rfl (lv_at hl 1 rfl) ?_
  refine lv_if_ge (tgt := 8) hx hb dX9_worth_1 (by decide) (fun hc1 => ?_) (fun hc1 => ?_)
  · rw [if_pos hc1] at hf
    refine lv_aload_n hx hb dX9_worth_8 rfl (lv_at hl 0 rfl) ?_
    refine lv_iload_n hx hb dX9_worth_9 rfl (lv_at hl 1 rfl) ?_
    obtain ⟨q2, hq2, hf⟩ := obE hf
    refine ct_cVi (rest := []) (tX9_find hD hq2) hx hb hml hown ht hX hP hS wX9_find kML_RX9_134 rfl rfl ⟨Nat.le_of_ble_eq_true rfl, Nat.le_of_ble_eq_true rfl⟩ (va_recv hX.1 hP rfl mw_obj) rfl hl.1 rfl (Nat.le_of_ble_eq_true rfl) dX9_worth_10 (fun H locs hP hS => ?_)
    exact blk13 _ _ un now past x2 q2 ls hP hS (lv_sub hl [0, 2] rfl) hf
  · rw [if_neg hc1] at hf
    refine lv_iconst (v := (-1 : Int32)) hx hb dX9_worth_4 (by decide) ?_
    refine lv_goto (tgt := 13) hx hb dX9_worth_5 (by decide) ?_
    exact blk13 _ _ un now past x2 (-1 : Int32) ls hP hS (lv_sub hl [0, 2] rfl) hf
def fX9_cut_28 (F : Nat) : Nat → Int32 → (Nat → Int32) → (Nat → Int32) → Int32 → Int32 → Int32 → Option (Int32 × Int32 × (Nat → Int32) × (Nat → Int32))
  | 0, _, _, _, _, _, _ => none
  | n + 1, un, now, past, x1, x2, x3 => if x3 = (-1 : Int32) then (some (x2, un, now, past)) else (if x1 ≤ x3 then (some (x2, un, now, past)) else ((fX9_find F now x3).bind fun q7 => ((fX9_takes F now q7).bind fun q8 => ((fX9_besideOf F q8 (-1 : Int32) (0 : Int32)).bind fun q9 => (fX9_cut_28 F n un q8 past x1 (x2 + (1 : Int32)) q9)))))
def fX9_cut (F : Nat) (un : Int32) (now : Nat → Int32) (past : Nat → Int32) (x1 : Int32) : Option (Int32 × Int32 × (Nat → Int32) × (Nat → Int32)) := (fX9_in F x1.toInt64 (0 : Int64) (100000 : Int64)).bind fun q1 => (if q1 = 0 then (some ((-1000000002 : Int32), un, now, past)) else ((fX9_save F un now past).bind fun q3 => ((fX9_besideOf F now (-1 : Int32) (0 : Int32)).bind fun q4 => (fX9_cut_28 F F q3.1 now q3.2 x1 (0 : Int32) q4))))
abbrev rX9_cut : Room := { frames := 6, cells := 0, slots := 0, locals := 148 }
theorem wX9_cut : kV yX9_cut cX9_cut 4 (some .int) 1 := ⟨kCO_yX9_cut, kIM_yX9_cut, kSE_yX9_cut, kIN_RX9, by decide +kernel, by decide +kernel, by decide +kernel⟩
set_option maxHeartbeats 4000000 in
set_option maxRecDepth 100000 in
theorem tX9_cut {l : Launch} {D : va_G} {cI cZ : ClassId} {ad : Nat → Nat} (hD : gInj 15 ad) {F : Nat} {un sd : Int32} {now past images iseed kept order numof above pile aside fewest deep keys worths : Nat → Int32} {x1 : Int32} {res : Int32 × Int32 × (Nat → Int32) × (Nat → Int32)} (hf : fX9_cut F un now past x1 = some res) : CTi l yX9_cut cX9_cut 4 .int rX9_cut D (mTy cI cZ) (gA 15 ad) [.ref (ad 0), .int x1] (mw cI cZ ad un sd now past images iseed kept order numof above pile aside fewest deep keys worths) res.1 (mw cI cZ ad res.2.1 sd res.2.2.1 res.2.2.2 images iseed kept order numof above pile aside fewest deep keys worths) := by
  refine ct_int (by decide) (Nat.le_of_ble_eq_true rfl) ?_
  intro p e s m args below meth c Q ls hx hb hml hown ht hX hret hP hS hl
  have hl : lv_has ls 4 [(0, .ref (ad 0)), (1, .int x1)] := hl
  have blk28 : ∀ (n28 : Nat) (H : Heap) (locs : List Loc) (un : Int32) (now : Nat → Int32) (past : Nat → Int32) (x1 : Int32) (x2 : Int32) (x3 : Int32) (ls : Array Slot), va_P D vwCl (mw cI cZ ad un sd now past images iseed kept order numof above pile aside fewest deep keys worths) H → va_S (gA 15 ad) s.heap H locs → lv_has ls 4 [(0, .ref (ad 0)), (1, .int x1), (2, .int x2), (3, .int x3)] → fX9_cut_28 F n28 un now past x1 x2 x3 = some res → W p l e rX9_cut s m args below meth c H locs 0 0 Q (F0 m 28 ls []) := by
    intro n28
    induction n28 with
    | zero =>
      intro H locs un now past x1 x2 x3 ls hP hS hl hf
      rw [fX9_cut_28] at hf
      cases hf
    | succ n28 ih28 =>
      skip
      intro H locs un now past x1 x2 x3 ls hP hS hl hf
      rw [fX9_cut_28] at hf
      refine lv_iload_n hx hb dX9_cut_28 rfl (lv_at hl 3 rfl) ?_
      refine lv_iconst (v := (-1 : Int32)) hx hb dX9_cut_29 (by decide) ?_
      refine lv_icmp_eq (tgt := 60) hx hb dX9_cut_30 (by decide) (fun hc5 => ?_) (fun hc5 => ?_)
      · rw [if_pos hc5] at hf
        refine lv_iload_n hx hb dX9_cut_60 rfl (lv_at hl 2 rfl) ?_
        have e0 := Option.some.inj hf
        subst e0
        exact hret _ _ _ _ hP hS dX9_cut_61
      · rw [if_neg hc5] at hf
        refine lv_iload_n hx hb dX9_cut_33 rfl (lv_at hl 3 rfl) ?_
        refine lv_iload_n hx hb dX9_cut_34 rfl (lv_at hl 1 rfl) ?_
        refine lv_icmp_ge (tgt := 60) hx hb dX9_cut_35 (by decide) (fun hc6 => ?_) (fun hc6 => ?_)
        · rw [if_pos hc6] at hf
          refine lv_iload_n hx hb dX9_cut_60 rfl (lv_at hl 2 rfl) ?_
          have e0 := Option.some.inj hf
          subst e0
          exact hret _ _ _ _ hP hS dX9_cut_61
        · rw [if_neg hc6] at hf
          refine lv_aload_n hx hb dX9_cut_38 rfl (lv_at hl 0 rfl) ?_
          refine lv_aload_n hx hb dX9_cut_39 rfl (lv_at hl 0 rfl) ?_
          refine lv_iload_n hx hb dX9_cut_40 rfl (lv_at hl 3 rfl) ?_
          obtain ⟨q7, hq7, hf⟩ := obE hf
          refine ct_cVi (rest := [.ref (ad 0)]) (tX9_find hD hq7) hx hb hml hown ht hX hP hS wX9_find kML_RX9_134 rfl rfl ⟨Nat.le_of_ble_eq_true rfl, Nat.le_of_ble_eq_true rfl⟩ (va_recv hX.1 hP rfl mw_obj) rfl hl.1 rfl (Nat.le_of_ble_eq_true rfl) dX9_cut_41 (fun H locs hP hS => ?_)
          obtain ⟨q8, hq8, hf⟩ := obE hf
          refine ct_cVv (rest := []) (tX9_takes hD hq8) hx hb hml hown ht hX hP hS wX9_takes kML_RX9_137 rfl rfl ⟨Nat.le_of_ble_eq_true rfl, Nat.le_of_ble_eq_true rfl⟩ (va_recv hX.1 hP rfl mw_obj) rfl hl.1 rfl (Nat.le_of_ble_eq_true rfl) dX9_cut_44 (fun H locs hP hS => ?_)
          refine lv_iinc (v := x2 + (1 : Int32)) (lv' := [(2, .int (x2 + (1 : Int32))), (0, .ref (ad 0)), (1, .int x1), (3, .int x3)]) hx hb dX9_cut_47 hl (k := 2) rfl rfl (by decide) rfl (fun ls hl => ?_)
          refine lv_aload_n hx hb dX9_cut_50 rfl (lv_at hl 1 rfl) ?_
          refine lv_iconst (v := (-1 : Int32)) hx hb dX9_cut_51 (by decide) ?_
          refine lv_iconst (v := (0 : Int32)) hx hb dX9_cut_52 (by decide) ?_
          obtain ⟨q9, hq9, hf⟩ := obE hf
          refine ct_cVi (rest := []) (tX9_besideOf hD hq9) hx hb hml hown ht hX hP hS wX9_besideOf kML_RX9_140 rfl rfl ⟨Nat.le_of_ble_eq_true rfl, Nat.le_of_ble_eq_true rfl⟩ (va_recv hX.1 hP rfl mw_obj) rfl hl.1 rfl (Nat.le_of_ble_eq_true rfl) dX9_cut_53 (fun H locs hP hS => ?_)
          refine lv_istore_n (lv' := [(3, .int q9), (2, .int (x2 + (1 : Int32))), (0, .ref (ad 0)), (1, .int x1)]) hx hb dX9_cut_56 rfl hl (by decide) rfl (fun ls hl => ?_)
          refine lv_goto (tgt := 28) hx hb dX9_cut_57 (by decide) ?_
          exact ih28 _ _ un q8 past x1 (x2 + (1 : Int32)) q9 ls hP hS (lv_sub hl [2, 3, 1, 0] rfl) hf
  unfold fX9_cut at hf
  refine lv_iload_n hx hb dX9_cut_0 rfl (lv_at hl 1 rfl) ?_
  refine lv_i2l (v := x1.toInt64) hx hb dX9_cut_1 rfl ?_
  refine lv_lconst (v := (0 : Int64)) hx hb dX9_cut_2 (by decide) ?_
  refine lv_ldc2 hx hb hown (ht _ kKJ_RX9_207) dX9_cut_3 ?_
  obtain ⟨q1, hq1, hf⟩ := obE hf
  refine ct_cSi (rest := []) (tX9_in hD hq1) hx hb hml hown ht hX hP hS wX9_in kML_RX9_172 rfl rfl ⟨Nat.le_of_ble_eq_true rfl, Nat.le_of_ble_eq_true rfl⟩ rfl hl.1 rfl (Nat.le_of_ble_eq_true rfl) dX9_cut_6 (fun H locs hP hS => ?_)
  refine lv_if_ne (tgt := 15) hx hb dX9_cut_9 (by decide) (fun hc2 => ?_) (fun hc2 => ?_)
  · rw [if_neg hc2] at hf
    refine lv_iconst (v := (0 : Int32)) hx hb dX9_cut_15 (by decide) ?_
    refine lv_istore_n (lv' := [(2, .int ((0 : Int32))), (0, .ref (ad 0)), (1, .int x1)]) hx hb dX9_cut_16 rfl hl (by decide) rfl (fun ls hl => ?_)
    refine lv_aload_n hx hb dX9_cut_17 rfl (lv_at hl 1 rfl) ?_
    obtain ⟨q3, hq3, hf⟩ := obE hf
    refine ct_cVv (rest := []) (tX9_save hD hq3) hx hb hml hown ht hX hP hS wX9_save kML_RX9_201 rfl rfl ⟨Nat.le_of_ble_eq_true rfl, Nat.le_of_ble_eq_true rfl⟩ (va_recv hX.1 hP rfl mw_obj) rfl hl.1 rfl (Nat.le_of_ble_eq_true rfl) dX9_cut_18 (fun H locs hP hS => ?_)
    refine lv_aload_n hx hb dX9_cut_21 rfl (lv_at hl 1 rfl) ?_
    refine lv_iconst (v := (-1 : Int32)) hx hb dX9_cut_22 (by decide) ?_
    refine lv_iconst (v := (0 : Int32)) hx hb dX9_cut_23 (by decide) ?_
    obtain ⟨q4, hq4, hf⟩ := obE hf
    refine ct_cVi (rest := []) (tX9_besideOf hD hq4) hx hb hml hown ht hX hP hS wX9_besideOf kML_RX9_140 rfl rfl ⟨Nat.le_of_ble_eq_true rfl, Nat.le_of_ble_eq_true rfl⟩ (va_recv hX.1 hP rfl mw_obj) rfl hl.1 rfl (Nat.le_of_ble_eq_true rfl) dX9_cut_24 (fun H locs hP hS => ?_)
    refine lv_istore_n (lv' := [(3, .int q4), (2, .int ((0 : Int32))), (0, .ref (ad 0)), (1, .int x1)]) hx hb dX9_cut_27 rfl hl (by decide) rfl (fun ls hl => ?_)
    exact blk28 F _ _ q3.1 now q3.2 x1 (0 : Int32) q4 ls hP hS (lv_sub hl [2, 3, 1, 0] rfl) hf
  · rw [if_pos hc2] at hf
    refine lv_ldc hx hb hown (ht _ kKI_RX9_171) dX9_cut_12 ?_
    have e0 := Option.some.inj hf
    subst e0
    exact hret _ _ _ _ hP hS dX9_cut_14
def fX9_comes_29 (F : Nat) (now : Nat → Int32) (x1 : Int32) (x2 : Int32) (y0 : Int32) : Option (Int32 × (Nat → Int32)) := if y0 = 0 then (if y0 = 0 ∨ y0 = 1 then some (y0, now) else none) else ((fX9_puts F now x1 x2).bind fun q8 => (if y0 = 0 ∨ y0 = 1 then some (y0, q8) else none))
def fX9_comes_28 (F : Nat) (now : Nat → Int32) (x1 : Int32) (x2 : Int32) : Option (Int32 × (Nat → Int32)) := fX9_comes_29 F now x1 x2 (0 : Int32)
def fX9_comes (F : Nat) (now : Nat → Int32) (x1 : Int32) (x2 : Int32) : Option (Int32 × (Nat → Int32)) := (fX9_isKey F x1).bind fun q1 => (if q1 = 0 then (fX9_comes_28 F now x1 x2) else ((fX9_isThere F now x1).bind fun q3 => (if q3 = 0 then ((fX9_many F now).bind fun q5 => (if (60 : Int32) ≤ q5 then (fX9_comes_28 F now x1 x2) else (fX9_comes_29 F now x1 x2 (1 : Int32)))) else (fX9_comes_28 F now x1 x2))))
abbrev rX9_comes : Room := { frames := 6, cells := 0, slots := 0, locals := 145 }
theorem wX9_comes : kV yX9_comes cX9_comes 4 (some .boolean) 2 := ⟨kCO_yX9_comes, kIM_yX9_comes, kSE_yX9_comes, kIN_RX9, by decide +kernel, by decide +kernel, by decide +kernel⟩
set_option maxHeartbeats 4000000 in
set_option maxRecDepth 100000 in
theorem tX9_comes {l : Launch} {D : va_G} {cI cZ : ClassId} {ad : Nat → Nat} (hD : gInj 15 ad) {F : Nat} {un sd : Int32} {now past images iseed kept order numof above pile aside fewest deep keys worths : Nat → Int32} {x1 : Int32} {x2 : Int32} {res : Int32 × (Nat → Int32)} (hf : fX9_comes F now x1 x2 = some res) : CTi l yX9_comes cX9_comes 4 .boolean rX9_comes D (mTy cI cZ) (gA 15 ad) [.ref (ad 0), .int x1, .int x2] (mw cI cZ ad un sd now past images iseed kept order numof above pile aside fewest deep keys worths) res.1 (mw cI cZ ad un sd res.2 past images iseed kept order numof above pile aside fewest deep keys worths) := by
  refine ct_bool (by decide) (Nat.le_of_ble_eq_true rfl) ?_
  intro p e s m args below meth c Q ls hx hb hml hown ht hX hret hP hS hl
  have hl : lv_has ls 4 [(0, .ref (ad 0)), (1, .int x1), (2, .int x2)] := hl
  have blk29 : ∀ (H : Heap) (locs : List Loc) (now : Nat → Int32) (x1 : Int32) (x2 : Int32) (y0 : Int32) (ls : Array Slot), va_P D vwCl (mw cI cZ ad un sd now past images iseed kept order numof above pile aside fewest deep keys worths) H → va_S (gA 15 ad) s.heap H locs → lv_has ls 4 [(0, .ref (ad 0)), (1, .int x1), (2, .int x2)] → fX9_comes_29 F now x1 x2 y0 = some res → W p l e rX9_comes s m args below meth c H locs 0 0 Q (F0 m 29 ls [.int y0]) := by
    intro H locs now x1 x2 y0 ls hP hS hl hf
    unfold fX9_comes_29 at hf
    refine lv_istore_n (lv' := [(3, .int y0), (0, .ref (ad 0)), (1, .int x1), (2, .int x2)]) hx hb dX9_comes_29 rfl hl (by decide) rfl (fun ls hl => ?_)
    refine lv_iload_n hx hb dX9_comes_30 rfl (lv_at hl 0 rfl) ?_
    refine lv_if_eq (tgt := 40) hx hb dX9_comes_31 (by decide) (fun hc7 => ?_) (fun hc7 => ?_)
    · rw [if_pos hc7] at hf
      refine lv_iload_n hx hb dX9_comes_40 rfl (lv_at hl 0 rfl) ?_
      obtain ⟨h01, hf⟩ := psE _ hf
      have e0 := Option.some.inj hf
      subst e0
      exact hret _ _ _ _ h01 hP hS dX9_comes_41
    · rw [if_neg hc7] at hf
      refine lv_aload_n hx hb dX9_comes_34 rfl (lv_at hl 1 rfl) ?_
      refine lv_iload_n hx hb dX9_comes_35 rfl (lv_at hl 2 rfl) ?_
      refine lv_iload_n hx hb dX9_comes_36 rfl (lv_at hl 3 rfl) ?_
      obtain ⟨q8, hq8, hf⟩ := obE hf
      refine ct_cVv (rest := []) (tX9_puts hD hq8) hx hb hml hown ht hX hP hS wX9_puts kML_RX9_204 rfl rfl ⟨Nat.le_of_ble_eq_true rfl, Nat.le_of_ble_eq_true rfl⟩ (va_recv hX.1 hP rfl mw_obj) rfl hl.1 rfl (Nat.le_of_ble_eq_true rfl) dX9_comes_37 (fun H locs hP hS => ?_)
      refine lv_iload_n hx hb dX9_comes_40 rfl (lv_at hl 0 rfl) ?_
      obtain ⟨h01, hf⟩ := psE _ hf
      have e0 := Option.some.inj hf
      subst e0
      exact hret _ _ _ _ h01 hP hS dX9_comes_41
  have blk28 : ∀ (H : Heap) (locs : List Loc) (now : Nat → Int32) (x1 : Int32) (x2 : Int32) (ls : Array Slot), va_P D vwCl (mw cI cZ ad un sd now past images iseed kept order numof above pile aside fewest deep keys worths) H → va_S (gA 15 ad) s.heap H locs → lv_has ls 4 [(0, .ref (ad 0)), (1, .int x1), (2, .int x2)] → fX9_comes_28 F now x1 x2 = some res → W p l e rX9_comes s m args below meth c H locs 0 0 Q (F0 m 28 ls []) := by
    intro H locs now x1 x2 ls hP hS hl hf
    unfold fX9_comes_28 at hf
    refine lv_iconst (v := (0 : Int32)) hx hb dX9_comes_28 (by decide) ?_
    exact blk29 _ _ now x1 x2 (0 : Int32) ls hP hS (lv_sub hl [0, 1, 2] rfl) hf
  unfold fX9_comes at hf
  refine lv_iload_n hx hb dX9_comes_0 rfl (lv_at hl 1 rfl) ?_
  obtain ⟨q1, hq1, hf⟩ := obE hf
  refine ct_cSi (rest := []) (tX9_isKey hD hq1) hx hb hml hown ht hX hP hS wX9_isKey kML_RX9_191 rfl rfl ⟨Nat.le_of_ble_eq_true rfl, Nat.le_of_ble_eq_true rfl⟩ rfl hl.1 rfl (Nat.le_of_ble_eq_true rfl) dX9_comes_1 (fun H locs hP hS => ?_)
  refine lv_if_eq (tgt := 28) hx hb dX9_comes_4 (by decide) (fun hc2 => ?_) (fun hc2 => ?_)
  · rw [if_pos hc2] at hf
    exact blk28 _ _ now x1 x2 ls hP hS (lv_sub hl [0, 1, 2] rfl) hf
  · rw [if_neg hc2] at hf
    refine lv_aload_n hx hb dX9_comes_7 rfl (lv_at hl 0 rfl) ?_
    refine lv_iload_n hx hb dX9_comes_8 rfl (lv_at hl 1 rfl) ?_
    obtain ⟨q3, hq3, hf⟩ := obE hf
    refine ct_cVi (rest := []) (tX9_isThere hD hq3) hx hb hml hown ht hX hP hS wX9_isThere kML_RX9_196 rfl rfl ⟨Nat.le_of_ble_eq_true rfl, Nat.le_of_ble_eq_true rfl⟩ (va_recv hX.1 hP rfl mw_obj) rfl hl.1 rfl (Nat.le_of_ble_eq_true rfl) dX9_comes_9 (fun H locs hP hS => ?_)
    refine lv_if_ne (tgt := 28) hx hb dX9_comes_12 (by decide) (fun hc4 => ?_) (fun hc4 => ?_)
    · rw [if_neg hc4] at hf
      exact blk28 _ _ now x1 x2 ls hP hS (lv_sub hl [0, 1, 2] rfl) hf
    · rw [if_pos hc4] at hf
      refine lv_aload_n hx hb dX9_comes_15 rfl (lv_at hl 0 rfl) ?_
      obtain ⟨q5, hq5, hf⟩ := obE hf
      refine ct_cVi (rest := []) (tX9_many hD hq5) hx hb hml hown ht hX hP hS wX9_many kML_RX9_128 rfl rfl ⟨Nat.le_of_ble_eq_true rfl, Nat.le_of_ble_eq_true rfl⟩ (va_recv hX.1 hP rfl mw_obj) rfl hl.1 rfl (Nat.le_of_ble_eq_true rfl) dX9_comes_16 (fun H locs hP hS => ?_)
      refine lv_bipush (v := (60 : Int32)) hx hb dX9_comes_19 (by decide) ?_
      refine lv_icmp_ge (tgt := 28) hx hb dX9_comes_21 (by decide) (fun hc6 => ?_) (fun hc6 => ?_)
      · rw [if_pos hc6] at hf
        exact blk28 _ _ now x1 x2 ls hP hS (lv_sub hl [0, 1, 2] rfl) hf
      · rw [if_neg hc6] at hf
        refine lv_iconst (v := (1 : Int32)) hx hb dX9_comes_24 (by decide) ?_
        refine lv_goto (tgt := 29) hx hb dX9_comes_25 (by decide) ?_
        exact blk29 _ _ now x1 x2 (1 : Int32) ls hP hS (lv_sub hl [0, 1, 2] rfl) hf
def fX9_batch_44 (F : Nat) : Nat → Int32 → (Nat → Int32) → (Nat → Int32) → Int32 → Int32 → Int32 → Int32 → Int32 → Option (Int32 × Int32 × (Nat → Int32) × (Nat → Int32))
  | 0, _, _, _, _, _, _, _, _ => none
  | n + 1, un, now, past, x1, x2, x3, x4, x5 => if x1 ≤ x5 then (some (x4, un, now, past)) else ((fX9_comes F now (x2 + (x5 * x3)) (1 : Int32)).bind fun q9 => (if q9.1 = 0 then (fX9_batch_44 F n un q9.2 past x1 x2 x3 (x4 + (0 : Int32)) (x5 + (1 : Int32))) else (fX9_batch_44 F n un q9.2 past x1 x2 x3 (x4 + (1 : Int32)) (x5 + (1 : Int32)))))
def fX9_batch (F : Nat) (un : Int32) (now : Nat → Int32) (past : Nat → Int32) (x1 : Int32) (x2 : Int32) (x3 : Int32) : Option (Int32 × Int32 × (Nat → Int32) × (Nat → Int32)) := (fX9_in F x1.toInt64 (1 : Int64) (30 : Int64)).bind fun q1 => (if q1 = 0 then (some ((-1000000002 : Int32), un, now, past)) else ((fX9_isKey F x2).bind fun q3 => (if q3 = 0 then (some ((-1000000002 : Int32), un, now, past)) else ((fX9_in F x3.toInt64 (1 : Int64) (9999 : Int64)).bind fun q5 => (if q5 = 0 then (some ((-1000000002 : Int32), un, now, past)) else ((fX9_save F un now past).bind fun q7 => (fX9_batch_44 F F q7.1 now q7.2 x1 x2 x3 (0 : Int32) (0 : Int32))))))))
abbrev rX9_batch : Room := { frames := 7, cells := 0, slots := 0, locals := 168 }
theorem wX9_batch : kV yX9_batch cX9_batch 6 (some .int) 3 := ⟨kCO_yX9_batch, kIM_yX9_batch, kSE_yX9_batch, kIN_RX9, by decide +kernel, by decide +kernel, by decide +kernel⟩
set_option maxHeartbeats 4000000 in
set_option maxRecDepth 100000 in
theorem tX9_batch {l : Launch} {D : va_G} {cI cZ : ClassId} {ad : Nat → Nat} (hD : gInj 15 ad) {F : Nat} {un sd : Int32} {now past images iseed kept order numof above pile aside fewest deep keys worths : Nat → Int32} {x1 : Int32} {x2 : Int32} {x3 : Int32} {res : Int32 × Int32 × (Nat → Int32) × (Nat → Int32)} (hf : fX9_batch F un now past x1 x2 x3 = some res) : CTi l yX9_batch cX9_batch 6 .int rX9_batch D (mTy cI cZ) (gA 15 ad) [.ref (ad 0), .int x1, .int x2, .int x3] (mw cI cZ ad un sd now past images iseed kept order numof above pile aside fewest deep keys worths) res.1 (mw cI cZ ad res.2.1 sd res.2.2.1 res.2.2.2 images iseed kept order numof above pile aside fewest deep keys worths) := by
  refine ct_int (by decide) (Nat.le_of_ble_eq_true rfl) ?_
  intro p e s m args below meth c Q ls hx hb hml hown ht hX hret hP hS hl
  have hl : lv_has ls 6 [(0, .ref (ad 0)), (1, .int x1), (2, .int x2), (3, .int x3)] := hl
  have blk44 : ∀ (n44 : Nat) (H : Heap) (locs : List Loc) (un : Int32) (now : Nat → Int32) (past : Nat → Int32) (x1 : Int32) (x2 : Int32) (x3 : Int32) (x4 : Int32) (x5 : Int32) (ls : Array Slot), va_P D vwCl (mw cI cZ ad un sd now past images iseed kept order numof above pile aside fewest deep keys worths) H → va_S (gA 15 ad) s.heap H locs → lv_has ls 6 [(0, .ref (ad 0)), (1, .int x1), (2, .int x2), (3, .int x3), (4, .int x4), (5, .int x5)] → fX9_batch_44 F n44 un now past x1 x2 x3 x4 x5 = some res → W p l e rX9_batch s m args below meth c H locs 0 0 Q (F0 m 44 ls []) := by
    intro n44
    induction n44 with
    | zero =>
      intro H locs un now past x1 x2 x3 x4 x5 ls hP hS hl hf
      rw [fX9_batch_44] at hf
      cases hf
    | succ n44 ih44 =>
      skip
      intro H locs un now past x1 x2 x3 x4 x5 ls hP hS hl hf
      rw [fX9_batch_44] at hf
      refine lv_iload hx hb dX9_batch_44 (lv_at hl 5 rfl) ?_
      refine lv_iload_n hx hb dX9_batch_46 rfl (lv_at hl 1 rfl) ?_
      refine lv_icmp_ge (tgt := 80) hx hb dX9_batch_47 (by decide) (fun hc8 => ?_) (fun hc8 => ?_)
      · rw [if_pos hc8] at hf
        refine lv_iload hx hb dX9_batch_80 (lv_at hl 4 rfl) ?_
        have e0 := Option.some.inj hf
        subst e0
        exact hret _ _ _ _ hP hS dX9_batch_82
      · rw [if_neg hc8] at hf
        refine lv_iload hx hb dX9_batch_50 (lv_at hl 4 rfl) ?_
        refine lv_aload_n hx hb dX9_batch_52 rfl (lv_at hl 0 rfl) ?_
        refine lv_iload_n hx hb dX9_batch_53 rfl (lv_at hl 2 rfl) ?_
        refine lv_iload hx hb dX9_batch_54 (lv_at hl 5 rfl) ?_
        refine lv_iload_n hx hb dX9_batch_56 rfl (lv_at hl 3 rfl) ?_
        refine lv_imul hx hb dX9_batch_57 ?_
        refine lv_iadd hx hb dX9_batch_58 ?_
        refine lv_iconst (v := (1 : Int32)) hx hb dX9_batch_59 (by decide) ?_
        obtain ⟨q9, hq9, hf⟩ := obE hf
        refine ct_cVi (rest := [.int x4]) (tX9_comes hD hq9) hx hb hml hown ht hX hP hS wX9_comes kML_RX9_211 rfl rfl ⟨Nat.le_of_ble_eq_true rfl, Nat.le_of_ble_eq_true rfl⟩ (va_recv hX.1 hP rfl mw_obj) rfl hl.1 rfl (Nat.le_of_ble_eq_true rfl) dX9_batch_60 (fun H locs hP hS => ?_)
        refine lv_if_eq (tgt := 70) hx hb dX9_batch_63 (by decide) (fun hc10 => ?_) (fun hc10 => ?_)
        · rw [if_pos hc10] at hf
          refine lv_iconst (v := (0 : Int32)) hx hb dX9_batch_70 (by decide) ?_
          refine lv_iadd hx hb dX9_batch_71 ?_
          refine lv_istore (lv' := [(4, .int (x4 + (0 : Int32))), (0, .ref (ad 0)), (1, .int x1), (2, .int x2), (3, .int x3), (5, .int x5)]) hx hb dX9_batch_72 hl (by decide) rfl (fun ls hl => ?_)
          refine lv_iinc (v := x5 + (1 : Int32)) (lv' := [(5, .int (x5 + (1 : Int32))), (4, .int (x4 + (0 : Int32))), (0, .ref (ad 0)), (1, .int x1), (2, .int x2), (3, .int x3)]) hx hb dX9_batch_74 hl (k := 5) rfl rfl (by decide) rfl (fun ls hl => ?_)
          refine lv_goto (tgt := 44) hx hb dX9_batch_77 (by decide) ?_
          exact ih44 _ _ un q9.2 past x1 x2 x3 (x4 + (0 : Int32)) (x5 + (1 : Int32)) ls hP hS (lv_sub hl [2, 3, 4, 5, 1, 0] rfl) hf
        · rw [if_neg hc10] at hf
          refine lv_iconst (v := (1 : Int32)) hx hb dX9_batch_66 (by decide) ?_
          refine lv_goto (tgt := 71) hx hb dX9_batch_67 (by decide) ?_
          refine lv_iadd hx hb dX9_batch_71 ?_
          refine lv_istore (lv' := [(4, .int (x4 + (1 : Int32))), (0, .ref (ad 0)), (1, .int x1), (2, .int x2), (3, .int x3), (5, .int x5)]) hx hb dX9_batch_72 hl (by decide) rfl (fun ls hl => ?_)
          refine lv_iinc (v := x5 + (1 : Int32)) (lv' := [(5, .int (x5 + (1 : Int32))), (4, .int (x4 + (1 : Int32))), (0, .ref (ad 0)), (1, .int x1), (2, .int x2), (3, .int x3)]) hx hb dX9_batch_74 hl (k := 5) rfl rfl (by decide) rfl (fun ls hl => ?_)
          refine lv_goto (tgt := 44) hx hb dX9_batch_77 (by decide) ?_
          exact ih44 _ _ un q9.2 past x1 x2 x3 (x4 + (1 : Int32)) (x5 + (1 : Int32)) ls hP hS (lv_sub hl [2, 3, 4, 5, 1, 0] rfl) hf
  unfold fX9_batch at hf
  refine lv_iload_n hx hb dX9_batch_0 rfl (lv_at hl 1 rfl) ?_
  refine lv_i2l (v := x1.toInt64) hx hb dX9_batch_1 rfl ?_
  refine lv_lconst (v := (1 : Int64)) hx hb dX9_batch_2 (by decide) ?_
  refine lv_ldc2 hx hb hown (ht _ kKJ_RX9_209) dX9_batch_3 ?_
  obtain ⟨q1, hq1, hf⟩ := obE hf
  refine ct_cSi (rest := []) (tX9_in hD hq1) hx hb hml hown ht hX hP hS wX9_in kML_RX9_172 rfl rfl ⟨Nat.le_of_ble_eq_true rfl, Nat.le_of_ble_eq_true rfl⟩ rfl hl.1 rfl (Nat.le_of_ble_eq_true rfl) dX9_batch_6 (fun H locs hP hS => ?_)
  refine lv_if_eq (tgt := 31) hx hb dX9_batch_9 (by decide) (fun hc2 => ?_) (fun hc2 => ?_)
  · rw [if_pos hc2] at hf
    refine lv_ldc hx hb hown (ht _ kKI_RX9_171) dX9_batch_31 ?_
    have e0 := Option.some.inj hf
    subst e0
    exact hret _ _ _ _ hP hS dX9_batch_33
  · rw [if_neg hc2] at hf
    refine lv_iload_n hx hb dX9_batch_12 rfl (lv_at hl 2 rfl) ?_
    obtain ⟨q3, hq3, hf⟩ := obE hf
    refine ct_cSi (rest := []) (tX9_isKey hD hq3) hx hb hml hown ht hX hP hS wX9_isKey kML_RX9_191 rfl rfl ⟨Nat.le_of_ble_eq_true rfl, Nat.le_of_ble_eq_true rfl⟩ rfl hl.1 rfl (Nat.le_of_ble_eq_true rfl) dX9_batch_13 (fun H locs hP hS => ?_)
    refine lv_if_eq (tgt := 31) hx hb dX9_batch_16 (by decide) (fun hc4 => ?_) (fun hc4 => ?_)
    · rw [if_pos hc4] at hf
      refine lv_ldc hx hb hown (ht _ kKI_RX9_171) dX9_batch_31 ?_
      have e0 := Option.some.inj hf
      subst e0
      exact hret _ _ _ _ hP hS dX9_batch_33
    · rw [if_neg hc4] at hf
      refine lv_iload_n hx hb dX9_batch_19 rfl (lv_at hl 3 rfl) ?_
      refine lv_i2l (v := x3.toInt64) hx hb dX9_batch_20 rfl ?_
      refine lv_lconst (v := (1 : Int64)) hx hb dX9_batch_21 (by decide) ?_
      refine lv_ldc2 hx hb hown (ht _ kKJ_RX9_194) dX9_batch_22 ?_
      obtain ⟨q5, hq5, hf⟩ := obE hf
      refine ct_cSi (rest := []) (tX9_in hD hq5) hx hb hml hown ht hX hP hS wX9_in kML_RX9_172 rfl rfl ⟨Nat.le_of_ble_eq_true rfl, Nat.le_of_ble_eq_true rfl⟩ rfl hl.1 rfl (Nat.le_of_ble_eq_true rfl) dX9_batch_25 (fun H locs hP hS => ?_)
      refine lv_if_ne (tgt := 34) hx hb dX9_batch_28 (by decide) (fun hc6 => ?_) (fun hc6 => ?_)
      · rw [if_neg hc6] at hf
        refine lv_iconst (v := (0 : Int32)) hx hb dX9_batch_34 (by decide) ?_
        refine lv_istore (lv' := [(4, .int ((0 : Int32))), (0, .ref (ad 0)), (1, .int x1), (2, .int x2), (3, .int x3)]) hx hb dX9_batch_35 hl (by decide) rfl (fun ls hl => ?_)
        refine lv_aload_n hx hb dX9_batch_37 rfl (lv_at hl 1 rfl) ?_
        obtain ⟨q7, hq7, hf⟩ := obE hf
        refine ct_cVv (rest := []) (tX9_save hD hq7) hx hb hml hown ht hX hP hS wX9_save kML_RX9_201 rfl rfl ⟨Nat.le_of_ble_eq_true rfl, Nat.le_of_ble_eq_true rfl⟩ (va_recv hX.1 hP rfl mw_obj) rfl hl.1 rfl (Nat.le_of_ble_eq_true rfl) dX9_batch_38 (fun H locs hP hS => ?_)
        refine lv_iconst (v := (0 : Int32)) hx hb dX9_batch_41 (by decide) ?_
        refine lv_istore (lv' := [(5, .int ((0 : Int32))), (4, .int ((0 : Int32))), (0, .ref (ad 0)), (1, .int x1), (2, .int x2), (3, .int x3)]) hx hb dX9_batch_42 hl (by decide) rfl (fun ls hl => ?_)
        exact blk44 F _ _ q7.1 now q7.2 x1 x2 x3 (0 : Int32) (0 : Int32) ls hP hS (lv_sub hl [2, 3, 4, 5, 1, 0] rfl) hf
      · rw [if_pos hc6] at hf
        refine lv_ldc hx hb hown (ht _ kKI_RX9_171) dX9_batch_31 ?_
        have e0 := Option.some.inj hf
        subst e0
        exact hret _ _ _ _ hP hS dX9_batch_33
def fX9_rebuild_65 (F : Nat) : Nat → Int32 → (Nat → Int32) → (Nat → Int32) → (Nat → Int32) → (Nat → Int32) → (Nat → Int32) → (Nat → Int32) → (Nat → Int32) → (Nat → Int32) → Int32 → Int32 → Option (Int32 × Int32 × (Nat → Int32) × (Nat → Int32) × (Nat → Int32) × (Nat → Int32) × (Nat → Int32) × (Nat → Int32) × (Nat → Int32) × (Nat → Int32))
  | 0, _, _, _, _, _, _, _, _, _, _, _ => none
  | n + 1, un, now, past, order, numof, above, pile, keys, worths, x1, x3 => if x1 ≤ x3 then ((fX9_depth F now order numof above pile).bind fun q12 => (some (q12.1, un, now, past, q12.2.1, q12.2.2.1, q12.2.2.2.1, q12.2.2.2.2, keys, worths))) else (if x3 < 0 ∨ 60 ≤ x3.toNatClampNeg then none else (if x3 < 0 ∨ 60 ≤ x3.toNatClampNeg then none else ((fX9_puts F now (keys x3.toNatClampNeg) (worths x3.toNatClampNeg)).bind fun q15 => (fX9_rebuild_65 F n un q15 past order numof above pile keys worths x1 (x3 + (1 : Int32))))))
def fX9_rebuild_18 (F : Nat) : Nat → Int32 → (Nat → Int32) → (Nat → Int32) → (Nat → Int32) → (Nat → Int32) → (Nat → Int32) → (Nat → Int32) → (Nat → Int32) → (Nat → Int32) → Int32 → Int32 → Int32 → Option (Int32 × Int32 × (Nat → Int32) × (Nat → Int32) × (Nat → Int32) × (Nat → Int32) × (Nat → Int32) × (Nat → Int32) × (Nat → Int32) × (Nat → Int32))
  | 0, _, _, _, _, _, _, _, _, _, _, _, _ => none
  | n + 1, un, now, past, order, numof, above, pile, keys, worths, x1, x2, x3 => if x1 ≤ x3 then ((fX9_goesEmpty F now).bind fun q5 => (fX9_rebuild_65 F F un q5 past order numof above pile keys worths x1 (0 : Int32))) else (if x3 < 0 ∨ 60 ≤ x3.toNatClampNeg then none else ((fX9_find F now x2).bind fun q7 => ((fX9_of F now q7 (1 : Int32)).bind fun q8 => (if x3 < 0 ∨ 60 ≤ x3.toNatClampNeg then none else ((fX9_besideOf F now x2 (0 : Int32)).bind fun q10 => (fX9_rebuild_18 F n un now past order numof above pile (upd keys x3.toNatClampNeg x2) (upd worths x3.toNatClampNeg q8) x1 q10 (x3 + (1 : Int32))))))))
def fX9_rebuild (F : Nat) (un : Int32) (now : Nat → Int32) (past : Nat → Int32) (order : Nat → Int32) (numof : Nat → Int32) (above : Nat → Int32) (pile : Nat → Int32) (keys : Nat → Int32) (worths : Nat → Int32) : Option (Int32 × Int32 × (Nat → Int32) × (Nat → Int32) × (Nat → Int32) × (Nat → Int32) × (Nat → Int32) × (Nat → Int32) × (Nat → Int32) × (Nat → Int32)) := (fX9_many F now).bind fun q1 => ((fX9_save F un now past).bind fun q2 => ((fX9_besideOf F now (-1 : Int32) (0 : Int32)).bind fun q3 => (fX9_rebuild_18 F F q2.1 now q2.2 order numof above pile keys worths q1 q3 (0 : Int32))))
abbrev rX9_rebuild : Room := { frames := 6, cells := 0, slots := 0, locals := 145 }
theorem wX9_rebuild : kV yX9_rebuild cX9_rebuild 4 (some .int) 0 := ⟨kCO_yX9_rebuild, kIM_yX9_rebuild, kSE_yX9_rebuild, kIN_RX9, by decide +kernel, by decide +kernel, by decide +kernel⟩
set_option maxHeartbeats 4000000 in
set_option maxRecDepth 100000 in
theorem tX9_rebuild {l : Launch} {D : va_G} {cI cZ : ClassId} {ad : Nat → Nat} (hD : gInj 15 ad) {F : Nat} {un sd : Int32} {now past images iseed kept order numof above pile aside fewest deep keys worths : Nat → Int32} {res : Int32 × Int32 × (Nat → Int32) × (Nat → Int32) × (Nat → Int32) × (Nat → Int32) × (Nat → Int32) × (Nat → Int32) × (Nat → Int32) × (Nat → Int32)} (hf : fX9_rebuild F un now past order numof above pile keys worths = some res) : CTi l yX9_rebuild cX9_rebuild 4 .int rX9_rebuild D (mTy cI cZ) (gA 15 ad) [.ref (ad 0)] (mw cI cZ ad un sd now past images iseed kept order numof above pile aside fewest deep keys worths) res.1 (mw cI cZ ad res.2.1 sd res.2.2.1 res.2.2.2.1 images iseed kept res.2.2.2.2.1 res.2.2.2.2.2.1 res.2.2.2.2.2.2.1 res.2.2.2.2.2.2.2.1 aside fewest deep res.2.2.2.2.2.2.2.2.1 res.2.2.2.2.2.2.2.2.2) := by
  refine ct_int (by decide) (Nat.le_of_ble_eq_true rfl) ?_
  intro p e s m args below meth c Q ls hx hb hml hown ht hX hret hP hS hl
  have hl : lv_has ls 4 [(0, .ref (ad 0))] := hl
  have blk65 : ∀ (n65 : Nat) (H : Heap) (locs : List Loc) (un : Int32) (now : Nat → Int32) (past : Nat → Int32) (order : Nat → Int32) (numof : Nat → Int32) (above : Nat → Int32) (pile : Nat → Int32) (keys : Nat → Int32) (worths : Nat → Int32) (x1 : Int32) (x3 : Int32) (ls : Array Slot), va_P D vwCl (mw cI cZ ad un sd now past images iseed kept order numof above pile aside fewest deep keys worths) H → va_S (gA 15 ad) s.heap H locs → lv_has ls 4 [(0, .ref (ad 0)), (1, .int x1), (3, .int x3)] → fX9_rebuild_65 F n65 un now past order numof above pile keys worths x1 x3 = some res → W p l e rX9_rebuild s m args below meth c H locs 0 0 Q (F0 m 65 ls []) := by
    intro n65
    induction n65 with
    | zero =>
      intro H locs un now past order numof above pile keys worths x1 x3 ls hP hS hl hf
      rw [fX9_rebuild_65] at hf
      cases hf
    | succ n65 ih65 =>
      skip
      intro H locs un now past order numof above pile keys worths x1 x3 ls hP hS hl hf
      rw [fX9_rebuild_65] at hf
      refine lv_iload_n hx hb dX9_rebuild_65 rfl (lv_at hl 2 rfl) ?_
      refine lv_iload_n hx hb dX9_rebuild_66 rfl (lv_at hl 1 rfl) ?_
      refine lv_icmp_ge (tgt := 92) hx hb dX9_rebuild_67 (by decide) (fun hc11 => ?_) (fun hc11 => ?_)
      · rw [if_pos hc11] at hf
        refine lv_aload_n hx hb dX9_rebuild_92 rfl (lv_at hl 0 rfl) ?_
        obtain ⟨q12, hq12, hf⟩ := obE hf
        refine ct_cVi (rest := []) (tX9_depth hD hq12) hx hb hml hown ht hX hP hS wX9_depth kML_RX9_149 rfl rfl ⟨Nat.le_of_ble_eq_true rfl, Nat.le_of_ble_eq_true rfl⟩ (va_recv hX.1 hP rfl mw_obj) rfl hl.1 rfl (Nat.le_of_ble_eq_true rfl) dX9_rebuild_93 (fun H locs hP hS => ?_)
        have e0 := Option.some.inj hf
        subst e0
        exact hret _ _ _ _ hP hS dX9_rebuild_96
      · rw [if_neg hc11] at hf
        refine lv_aload_n hx hb dX9_rebuild_70 rfl (lv_at hl 0 rfl) ?_
        refine lv_aload_n hx hb dX9_rebuild_71 rfl (lv_at hl 0 rfl) ?_
        refine va_get (ci := 7) (v := .ref (ad 13)) hx hb ht i_X9 hown hX.1 hP 0 mw_obj rfl 14 (by decide) (ht _ kFL_RX9_47) (fun _ h9 => h9) rfl dX9_rebuild_72 ?_
        refine lv_iload_n hx hb dX9_rebuild_75 rfl (lv_at hl 2 rfl) ?_
        obtain ⟨hn13, hf⟩ := ngE _ hf
        refine va_iald hx hb hX.1 hP 13 0 mw_keys rfl hn13 dX9_rebuild_76 ?_
        refine lv_aload_n hx hb dX9_rebuild_77 rfl (lv_at hl 0 rfl) ?_
        refine va_get (ci := 7) (v := .ref (ad 14)) hx hb ht i_X9 hown hX.1 hP 0 mw_obj rfl 15 (by decide) (ht _ kFL_RX9_50) (fun _ h9 => h9) rfl dX9_rebuild_78 ?_
        refine lv_iload_n hx hb dX9_rebuild_81 rfl (lv_at hl 2 rfl) ?_
        obtain ⟨hn14, hf⟩ := ngE _ hf
        refine va_iald hx hb hX.1 hP 14 0 mw_worths rfl hn14 dX9_rebuild_82 ?_
        obtain ⟨q15, hq15, hf⟩ := obE hf
        refine ct_cVv (rest := []) (tX9_puts hD hq15) hx hb hml hown ht hX hP hS wX9_puts kML_RX9_204 rfl rfl ⟨Nat.le_of_ble_eq_true rfl, Nat.le_of_ble_eq_true rfl⟩ (va_recv hX.1 hP rfl mw_obj) rfl hl.1 rfl (Nat.le_of_ble_eq_true rfl) dX9_rebuild_83 (fun H locs hP hS => ?_)
        refine lv_iinc (v := x3 + (1 : Int32)) (lv' := [(3, .int (x3 + (1 : Int32))), (0, .ref (ad 0)), (1, .int x1)]) hx hb dX9_rebuild_86 hl (k := 2) rfl rfl (by decide) rfl (fun ls hl => ?_)
        refine lv_goto (tgt := 65) hx hb dX9_rebuild_89 (by decide) ?_
        exact ih65 _ _ un q15 past order numof above pile keys worths x1 (x3 + (1 : Int32)) ls hP hS (lv_sub hl [1, 2, 0] rfl) hf
  have blk18 : ∀ (n18 : Nat) (H : Heap) (locs : List Loc) (un : Int32) (now : Nat → Int32) (past : Nat → Int32) (order : Nat → Int32) (numof : Nat → Int32) (above : Nat → Int32) (pile : Nat → Int32) (keys : Nat → Int32) (worths : Nat → Int32) (x1 : Int32) (x2 : Int32) (x3 : Int32) (ls : Array Slot), va_P D vwCl (mw cI cZ ad un sd now past images iseed kept order numof above pile aside fewest deep keys worths) H → va_S (gA 15 ad) s.heap H locs → lv_has ls 4 [(0, .ref (ad 0)), (1, .int x1), (2, .int x2), (3, .int x3)] → fX9_rebuild_18 F n18 un now past order numof above pile keys worths x1 x2 x3 = some res → W p l e rX9_rebuild s m args below meth c H locs 0 0 Q (F0 m 18 ls []) := by
    intro n18
    induction n18 with
    | zero =>
      intro H locs un now past order numof above pile keys worths x1 x2 x3 ls hP hS hl hf
      rw [fX9_rebuild_18] at hf
      cases hf
    | succ n18 ih18 =>
      skip
      intro H locs un now past order numof above pile keys worths x1 x2 x3 ls hP hS hl hf
      rw [fX9_rebuild_18] at hf
      refine lv_iload_n hx hb dX9_rebuild_18 rfl (lv_at hl 3 rfl) ?_
      refine lv_iload_n hx hb dX9_rebuild_19 rfl (lv_at hl 1 rfl) ?_
      refine lv_icmp_ge (tgt := 59) hx hb dX9_rebuild_20 (by decide) (fun hc4 => ?_) (fun hc4 => ?_)
      · rw [if_pos hc4] at hf
        refine lv_aload_n hx hb dX9_rebuild_59 rfl (lv_at hl 0 rfl) ?_
        obtain ⟨q5, hq5, hf⟩ := obE hf
        refine ct_cVv (rest := []) (tX9_goesEmpty hD hq5) hx hb hml hown ht hX hP hS wX9_goesEmpty kML_RX9_60 rfl rfl ⟨Nat.le_of_ble_eq_true rfl, Nat.le_of_ble_eq_true rfl⟩ (va_recv hX.1 hP rfl mw_obj) rfl hl.1 rfl (Nat.le_of_ble_eq_true rfl) dX9_rebuild_60 (fun H locs hP hS => ?_)
        refine lv_iconst (v := (0 : Int32)) hx hb dX9_rebuild_63 (by decide) ?_
        refine lv_istore_n (lv' := [(3, .int ((0 : Int32))), (0, .ref (ad 0)), (1, .int x1), (2, .int x2)]) hx hb dX9_rebuild_64 rfl hl (by decide) rfl (fun ls hl => ?_)
        exact blk65 F _ _ un q5 past order numof above pile keys worths x1 (0 : Int32) ls hP hS (lv_sub hl [1, 2, 0] rfl) hf
      · rw [if_neg hc4] at hf
        refine lv_aload_n hx hb dX9_rebuild_23 rfl (lv_at hl 0 rfl) ?_
        refine va_get (ci := 7) (v := .ref (ad 13)) hx hb ht i_X9 hown hX.1 hP 0 mw_obj rfl 14 (by decide) (ht _ kFL_RX9_47) (fun _ h9 => h9) rfl dX9_rebuild_24 ?_
        refine lv_iload_n hx hb dX9_rebuild_27 rfl (lv_at hl 3 rfl) ?_
        refine lv_iload_n hx hb dX9_rebuild_28 rfl (lv_at hl 2 rfl) ?_
        obtain ⟨hn6, hf⟩ := ngE _ hf
        refine va_iast hx hb hX.1 hP (gw_D hD _) hS 13 0 mw_keys rfl hn6 dX9_rebuild_29 (fun H locs hP _ hS => ?_)
        rw [mw_set_keys] at hP
        refine lv_aload_n hx hb dX9_rebuild_30 rfl (lv_at hl 0 rfl) ?_
        refine va_get (ci := 7) (v := .ref (ad 14)) hx hb ht i_X9 hown hX.1 hP 0 mw_obj rfl 15 (by decide) (ht _ kFL_RX9_50) (fun _ h9 => h9) rfl dX9_rebuild_31 ?_
        refine lv_iload_n hx hb dX9_rebuild_34 rfl (lv_at hl 3 rfl) ?_
        refine lv_aload_n hx hb dX9_rebuild_35 rfl (lv_at hl 0 rfl) ?_
        refine lv_aload_n hx hb dX9_rebuild_36 rfl (lv_at hl 0 rfl) ?_
        refine lv_iload_n hx hb dX9_rebuild_37 rfl (lv_at hl 2 rfl) ?_
        obtain ⟨q7, hq7, hf⟩ := obE hf
        refine ct_cVi (rest := [.ref (ad 0), .int x3, .ref (ad 14)]) (tX9_find hD hq7) hx hb hml hown ht hX hP hS wX9_find kML_RX9_134 rfl rfl ⟨Nat.le_of_ble_eq_true rfl, Nat.le_of_ble_eq_true rfl⟩ (va_recv hX.1 hP rfl mw_obj) rfl hl.1 rfl (Nat.le_of_ble_eq_true rfl) dX9_rebuild_38 (fun H locs hP hS => ?_)
        refine lv_iconst (v := (1 : Int32)) hx hb dX9_rebuild_41 (by decide) ?_
        obtain ⟨q8, hq8, hf⟩ := obE hf
        refine ct_cVi (rest := [.int x3, .ref (ad 14)]) (tX9_of hD hq8) hx hb hml hown ht hX hP hS wX9_of kML_RX9_63 rfl rfl ⟨Nat.le_of_ble_eq_true rfl, Nat.le_of_ble_eq_true rfl⟩ (va_recv hX.1 hP rfl mw_obj) rfl hl.1 rfl (Nat.le_of_ble_eq_true rfl) dX9_rebuild_42 (fun H locs hP hS => ?_)
        obtain ⟨hn9, hf⟩ := ngE _ hf
        refine va_iast hx hb hX.1 hP (gw_D hD _) hS 14 0 mw_worths rfl hn9 dX9_rebuild_45 (fun H locs hP _ hS => ?_)
        rw [mw_set_worths] at hP
        refine lv_aload_n hx hb dX9_rebuild_46 rfl (lv_at hl 0 rfl) ?_
        refine lv_iload_n hx hb dX9_rebuild_47 rfl (lv_at hl 2 rfl) ?_
        refine lv_iconst (v := (0 : Int32)) hx hb dX9_rebuild_48 (by decide) ?_
        obtain ⟨q10, hq10, hf⟩ := obE hf
        refine ct_cVi (rest := []) (tX9_besideOf hD hq10) hx hb hml hown ht hX hP hS wX9_besideOf kML_RX9_140 rfl rfl ⟨Nat.le_of_ble_eq_true rfl, Nat.le_of_ble_eq_true rfl⟩ (va_recv hX.1 hP rfl mw_obj) rfl hl.1 rfl (Nat.le_of_ble_eq_true rfl) dX9_rebuild_49 (fun H locs hP hS => ?_)
        refine lv_istore_n (lv' := [(2, .int q10), (0, .ref (ad 0)), (1, .int x1), (3, .int x3)]) hx hb dX9_rebuild_52 rfl hl (by decide) rfl (fun ls hl => ?_)
        refine lv_iinc (v := x3 + (1 : Int32)) (lv' := [(3, .int (x3 + (1 : Int32))), (2, .int q10), (0, .ref (ad 0)), (1, .int x1)]) hx hb dX9_rebuild_53 hl (k := 3) rfl rfl (by decide) rfl (fun ls hl => ?_)
        refine lv_goto (tgt := 18) hx hb dX9_rebuild_56 (by decide) ?_
        exact ih18 _ _ un now past order numof above pile (upd keys x3.toNatClampNeg x2) (upd worths x3.toNatClampNeg q8) x1 q10 (x3 + (1 : Int32)) ls hP hS (lv_sub hl [2, 3, 1, 0] rfl) hf
  unfold fX9_rebuild at hf
  refine lv_aload_n hx hb dX9_rebuild_0 rfl (lv_at hl 0 rfl) ?_
  obtain ⟨q1, hq1, hf⟩ := obE hf
  refine ct_cVi (rest := []) (tX9_many hD hq1) hx hb hml hown ht hX hP hS wX9_many kML_RX9_128 rfl rfl ⟨Nat.le_of_ble_eq_true rfl, Nat.le_of_ble_eq_true rfl⟩ (va_recv hX.1 hP rfl mw_obj) rfl hl.1 rfl (Nat.le_of_ble_eq_true rfl) dX9_rebuild_1 (fun H locs hP hS => ?_)
  refine lv_istore_n (lv' := [(1, .int q1), (0, .ref (ad 0))]) hx hb dX9_rebuild_4 rfl hl (by decide) rfl (fun ls hl => ?_)
  refine lv_aload_n hx hb dX9_rebuild_5 rfl (lv_at hl 1 rfl) ?_
  obtain ⟨q2, hq2, hf⟩ := obE hf
  refine ct_cVv (rest := []) (tX9_save hD hq2) hx hb hml hown ht hX hP hS wX9_save kML_RX9_201 rfl rfl ⟨Nat.le_of_ble_eq_true rfl, Nat.le_of_ble_eq_true rfl⟩ (va_recv hX.1 hP rfl mw_obj) rfl hl.1 rfl (Nat.le_of_ble_eq_true rfl) dX9_rebuild_6 (fun H locs hP hS => ?_)
  refine lv_aload_n hx hb dX9_rebuild_9 rfl (lv_at hl 1 rfl) ?_
  refine lv_iconst (v := (-1 : Int32)) hx hb dX9_rebuild_10 (by decide) ?_
  refine lv_iconst (v := (0 : Int32)) hx hb dX9_rebuild_11 (by decide) ?_
  obtain ⟨q3, hq3, hf⟩ := obE hf
  refine ct_cVi (rest := []) (tX9_besideOf hD hq3) hx hb hml hown ht hX hP hS wX9_besideOf kML_RX9_140 rfl rfl ⟨Nat.le_of_ble_eq_true rfl, Nat.le_of_ble_eq_true rfl⟩ (va_recv hX.1 hP rfl mw_obj) rfl hl.1 rfl (Nat.le_of_ble_eq_true rfl) dX9_rebuild_12 (fun H locs hP hS => ?_)
  refine lv_istore_n (lv' := [(2, .int q3), (1, .int q1), (0, .ref (ad 0))]) hx hb dX9_rebuild_15 rfl hl (by decide) rfl (fun ls hl => ?_)
  refine lv_iconst (v := (0 : Int32)) hx hb dX9_rebuild_16 (by decide) ?_
  refine lv_istore_n (lv' := [(3, .int ((0 : Int32))), (2, .int q3), (1, .int q1), (0, .ref (ad 0))]) hx hb dX9_rebuild_17 rfl hl (by decide) rfl (fun ls hl => ?_)
  exact blk18 F _ _ q2.1 now q2.2 order numof above pile keys worths q1 q3 (0 : Int32) ls hP hS (lv_sub hl [3, 2, 1, 0] rfl) hf
def fX9_nextInImage_66 (F : Nat) (images : Nat → Int32) (k5 : Int32 → Int32 → Int32 → Int32 → Option (Int32)) (x1 : Int32) (x2 : Int32) (x3 : Int32) (x4 : Int32) (y0 : Int32) : Option (Int32) := if y0 = 0 then (k5 x1 x2 x3 (x4 + (1 : Int32))) else (k5 x1 x2 x4 (x4 + (1 : Int32)))
def fX9_nextInImage_65 (F : Nat) (images : Nat → Int32) (k5 : Int32 → Int32 → Int32 → Int32 → Option (Int32)) (x1 : Int32) (x2 : Int32) (x3 : Int32) (x4 : Int32) : Option (Int32) := fX9_nextInImage_66 F images k5 x1 x2 x3 x4 (0 : Int32)
def fX9_nextInImage_61 (F : Nat) (images : Nat → Int32) (k5 : Int32 → Int32 → Int32 → Int32 → Option (Int32)) (x1 : Int32) (x2 : Int32) (x3 : Int32) (x4 : Int32) : Option (Int32) := fX9_nextInImage_66 F images k5 x1 x2 x3 x4 (1 : Int32)
def fX9_nextInImage_5 (F : Nat) (images : Nat → Int32) : Nat → Int32 → Int32 → Int32 → Int32 → Option (Int32)
  | 0, _, _, _, _ => none
  | n + 1, x1, x2, x3, x4 => if (60 : Int32) ≤ x4 then (some x3) else (if (((368 : Int32) * x1) + ((6 : Int32) * x4)) < 0 ∨ 736 ≤ (((368 : Int32) * x1) + ((6 : Int32) * x4)).toNatClampNeg then none else (if (images (((368 : Int32) * x1) + ((6 : Int32) * x4)).toNatClampNeg) ≤ x2 then (fX9_nextInImage_65 F images (fun x1 x2 x3 x4 => fX9_nextInImage_5 F images n x1 x2 x3 x4) x1 x2 x3 x4) else (if x3 = (-1 : Int32) then (fX9_nextInImage_61 F images (fun x1 x2 x3 x4 => fX9_nextInImage_5 F images n x1 x2 x3 x4) x1 x2 x3 x4) else (if (((368 : Int32) * x1) + ((6 : Int32) * x3)) < 0 ∨ 736 ≤ (((368 : Int32) * x1) + ((6 : Int32) * x3)).toNatClampNeg then none else (if (images (((368 : Int32) * x1) + ((6 : Int32) * x3)).toNatClampNeg) ≤ (images (((368 : Int32) * x1) + ((6 : Int32) * x4)).toNatClampNeg) then (fX9_nextInImage_65 F images (fun x1 x2 x3 x4 => fX9_nextInImage_5 F images n x1 x2 x3 x4) x1 x2 x3 x4) else (fX9_nextInImage_61 F images (fun x1 x2 x3 x4 => fX9_nextInImage_5 F images n x1 x2 x3 x4) x1 x2 x3 x4))))))
def fX9_nextInImage (F : Nat) (images : Nat → Int32) (x1 : Int32) (x2 : Int32) : Option (Int32) := fX9_nextInImage_5 F images F x1 x2 (-1 : Int32) (0 : Int32)
abbrev rX9_nextInImage : Room := { frames := 0, cells := 0, slots := 0, locals := 0 }
theorem wX9_nextInImage : kV yX9_nextInImage cX9_nextInImage 7 (some .int) 2 := ⟨kCO_yX9_nextInImage, kIM_yX9_nextInImage, kSE_yX9_nextInImage, kIN_RX9, by decide +kernel, by decide +kernel, by decide +kernel⟩
set_option maxHeartbeats 4000000 in
set_option maxRecDepth 100000 in
theorem tX9_nextInImage {l : Launch} {D : va_G} {cI cZ : ClassId} {ad : Nat → Nat} (hD : gInj 15 ad) {F : Nat} {un sd : Int32} {now past images iseed kept order numof above pile aside fewest deep keys worths : Nat → Int32} {x1 : Int32} {x2 : Int32} {res : Int32} (hf : fX9_nextInImage F images x1 x2 = some res) : CTi l yX9_nextInImage cX9_nextInImage 7 .int rX9_nextInImage D (mTy cI cZ) (gA 15 ad) [.ref (ad 0), .int x1, .int x2] (mw cI cZ ad un sd now past images iseed kept order numof above pile aside fewest deep keys worths) res (mw cI cZ ad un sd now past images iseed kept order numof above pile aside fewest deep keys worths) := by
  refine ct_int (by decide) (Nat.le_of_ble_eq_true rfl) ?_
  intro p e s m args below meth c Q ls hx hb hml hown ht hX hret hP hS hl
  have hl : lv_has ls 7 [(0, .ref (ad 0)), (1, .int x1), (2, .int x2)] := hl
  have blk5 : ∀ (n5 : Nat) (H : Heap) (locs : List Loc) (x1 : Int32) (x2 : Int32) (x3 : Int32) (x4 : Int32) (ls : Array Slot), va_P D vwCl (mw cI cZ ad un sd now past images iseed kept order numof above pile aside fewest deep keys worths) H → va_S (gA 15 ad) s.heap H locs → lv_has ls 7 [(0, .ref (ad 0)), (1, .int x1), (2, .int x2), (3, .int x3), (4, .int x4)] → fX9_nextInImage_5 F images n5 x1 x2 x3 x4 = some res → W p l e rX9_nextInImage s m args below meth c H locs 0 0 Q (F0 m 5 ls []) := by
    intro n5
    induction n5 with
    | zero =>
      intro H locs x1 x2 x3 x4 ls hP hS hl hf
      rw [fX9_nextInImage_5] at hf
      cases hf
    | succ n5 ih5 =>
      skip
      have blk66 : ∀ (H : Heap) (locs : List Loc) (x1 : Int32) (x2 : Int32) (x3 : Int32) (x4 : Int32) (y0 : Int32) (ls : Array Slot), va_P D vwCl (mw cI cZ ad un sd now past images iseed kept order numof above pile aside fewest deep keys worths) H → va_S (gA 15 ad) s.heap H locs → lv_has ls 7 [(0, .ref (ad 0)), (1, .int x1), (2, .int x2), (3, .int x3), (4, .int x4)] → fX9_nextInImage_66 F images (fun x1 x2 x3 x4 => fX9_nextInImage_5 F images n5 x1 x2 x3 x4) x1 x2 x3 x4 y0 = some res → W p l e rX9_nextInImage s m args below meth c H locs 0 0 Q (F0 m 66 ls [.int y0]) := by
        intro H locs x1 x2 x3 x4 y0 ls hP hS hl hf
        unfold fX9_nextInImage_66 at hf
        refine lv_istore (lv' := [(6, .int y0), (0, .ref (ad 0)), (1, .int x1), (2, .int x2), (3, .int x3), (4, .int x4)]) hx hb dX9_nextInImage_66 hl (by decide) rfl (fun ls hl => ?_)
        refine lv_iload hx hb dX9_nextInImage_68 (lv_at hl 0 rfl) ?_
        refine lv_if_eq (tgt := 78) hx hb dX9_nextInImage_70 (by decide) (fun hc7 => ?_) (fun hc7 => ?_)
        · rw [if_pos hc7] at hf
          refine lv_iload_n hx hb dX9_nextInImage_78 rfl (lv_at hl 4 rfl) ?_
          refine lv_istore_n (lv' := [(3, .int x3), (6, .int y0), (0, .ref (ad 0)), (1, .int x1), (2, .int x2), (4, .int x4)]) hx hb dX9_nextInImage_79 rfl hl (by decide) rfl (fun ls hl => ?_)
          refine lv_iinc (v := x4 + (1 : Int32)) (lv' := [(4, .int (x4 + (1 : Int32))), (3, .int x3), (6, .int y0), (0, .ref (ad 0)), (1, .int x1), (2, .int x2)]) hx hb dX9_nextInImage_80 hl (k := 5) rfl rfl (by decide) rfl (fun ls hl => ?_)
          refine lv_goto (tgt := 5) hx hb dX9_nextInImage_83 (by decide) ?_
          exact ih5 _ _ x1 x2 x3 (x4 + (1 : Int32)) ls hP hS (lv_sub hl [3, 4, 5, 1, 0] rfl) hf
        · rw [if_neg hc7] at hf
          refine lv_iload hx hb dX9_nextInImage_73 (lv_at hl 5 rfl) ?_
          refine lv_goto (tgt := 79) hx hb dX9_nextInImage_75 (by decide) ?_
          refine lv_istore_n (lv' := [(3, .int x4), (6, .int y0), (0, .ref (ad 0)), (1, .int x1), (2, .int x2), (4, .int x4)]) hx hb dX9_nextInImage_79 rfl hl (by decide) rfl (fun ls hl => ?_)
          refine lv_iinc (v := x4 + (1 : Int32)) (lv' := [(4, .int (x4 + (1 : Int32))), (3, .int x4), (6, .int y0), (0, .ref (ad 0)), (1, .int x1), (2, .int x2)]) hx hb dX9_nextInImage_80 hl (k := 5) rfl rfl (by decide) rfl (fun ls hl => ?_)
          refine lv_goto (tgt := 5) hx hb dX9_nextInImage_83 (by decide) ?_
          exact ih5 _ _ x1 x2 x4 (x4 + (1 : Int32)) ls hP hS (lv_sub hl [3, 4, 5, 1, 0] rfl) hf
      have blk65 : ∀ (H : Heap) (locs : List Loc) (x1 : Int32) (x2 : Int32) (x3 : Int32) (x4 : Int32) (ls : Array Slot), va_P D vwCl (mw cI cZ ad un sd now past images iseed kept order numof above pile aside fewest deep keys worths) H → va_S (gA 15 ad) s.heap H locs → lv_has ls 7 [(0, .ref (ad 0)), (1, .int x1), (2, .int x2), (3, .int x3), (4, .int x4)] → fX9_nextInImage_65 F images (fun x1 x2 x3 x4 => fX9_nextInImage_5 F images n5 x1 x2 x3 x4) x1 x2 x3 x4 = some res → W p l e rX9_nextInImage s m args below meth c H locs 0 0 Q (F0 m 65 ls []) := by
        intro H locs x1 x2 x3 x4 ls hP hS hl hf
        unfold fX9_nextInImage_65 at hf
        refine lv_iconst (v := (0 : Int32)) hx hb dX9_nextInImage_65 (by decide) ?_
        exact blk66 _ _ x1 x2 x3 x4 (0 : Int32) ls hP hS (lv_sub hl [0, 1, 2, 3, 4] rfl) hf
      have blk61 : ∀ (H : Heap) (locs : List Loc) (x1 : Int32) (x2 : Int32) (x3 : Int32) (x4 : Int32) (ls : Array Slot), va_P D vwCl (mw cI cZ ad un sd now past images iseed kept order numof above pile aside fewest deep keys worths) H → va_S (gA 15 ad) s.heap H locs → lv_has ls 7 [(0, .ref (ad 0)), (1, .int x1), (2, .int x2), (3, .int x3), (4, .int x4)] → fX9_nextInImage_61 F images (fun x1 x2 x3 x4 => fX9_nextInImage_5 F images n5 x1 x2 x3 x4) x1 x2 x3 x4 = some res → W p l e rX9_nextInImage s m args below meth c H locs 0 0 Q (F0 m 61 ls []) := by
        intro H locs x1 x2 x3 x4 ls hP hS hl hf
        unfold fX9_nextInImage_61 at hf
        refine lv_iconst (v := (1 : Int32)) hx hb dX9_nextInImage_61 (by decide) ?_
        refine lv_goto (tgt := 66) hx hb dX9_nextInImage_62 (by decide) ?_
        exact blk66 _ _ x1 x2 x3 x4 (1 : Int32) ls hP hS (lv_sub hl [0, 1, 2, 3, 4] rfl) hf
      intro H locs x1 x2 x3 x4 ls hP hS hl hf
      rw [fX9_nextInImage_5] at hf
      refine lv_iload hx hb dX9_nextInImage_5 (lv_at hl 4 rfl) ?_
      refine lv_bipush (v := (60 : Int32)) hx hb dX9_nextInImage_7 (by decide) ?_
      refine lv_icmp_ge (tgt := 86) hx hb dX9_nextInImage_9 (by decide) (fun hc1 => ?_) (fun hc1 => ?_)
      · rw [if_pos hc1] at hf
        refine lv_iload_n hx hb dX9_nextInImage_86 rfl (lv_at hl 3 rfl) ?_
        have e0 := Option.some.inj hf
        subst e0
        exact hret _ _ _ _ hP hS dX9_nextInImage_87
      · rw [if_neg hc1] at hf
        refine lv_aload_n hx hb dX9_nextInImage_12 rfl (lv_at hl 0 rfl) ?_
        refine va_get (ci := 7) (v := .ref (ad 3)) hx hb ht i_X9 hown hX.1 hP 0 mw_obj rfl 3 (by decide) (ht _ kFL_RX9_16) (fun _ h9 => h9) rfl dX9_nextInImage_13 ?_
        refine lv_sipush (v := (368 : Int32)) hx hb dX9_nextInImage_16 (by decide) ?_
        refine lv_iload_n hx hb dX9_nextInImage_19 rfl (lv_at hl 1 rfl) ?_
        refine lv_imul hx hb dX9_nextInImage_20 ?_
        refine lv_bipush (v := (6 : Int32)) hx hb dX9_nextInImage_21 (by decide) ?_
        refine lv_iload hx hb dX9_nextInImage_23 (lv_at hl 4 rfl) ?_
        refine lv_imul hx hb dX9_nextInImage_25 ?_
        refine lv_iadd hx hb dX9_nextInImage_26 ?_
        obtain ⟨hn2, hf⟩ := ngE _ hf
        refine va_iald hx hb hX.1 hP 3 0 mw_images rfl hn2 dX9_nextInImage_27 ?_
        refine lv_istore (lv' := [(5, .int (images (((368 : Int32) * x1) + ((6 : Int32) * x4)).toNatClampNeg)), (0, .ref (ad 0)), (1, .int x1), (2, .int x2), (3, .int x3), (4, .int x4)]) hx hb dX9_nextInImage_28 hl (by decide) rfl (fun ls hl => ?_)
        refine lv_iload hx hb dX9_nextInImage_30 (lv_at hl 0 rfl) ?_
        refine lv_iload_n hx hb dX9_nextInImage_32 rfl (lv_at hl 3 rfl) ?_
        refine lv_icmp_le (tgt := 65) hx hb dX9_nextInImage_33 (by decide) (fun hc3 => ?_) (fun hc3 => ?_)
        · rw [if_pos hc3] at hf
          exact blk65 _ _ x1 x2 x3 x4 ls hP hS (lv_sub hl [1, 2, 3, 4, 5] rfl) hf
        · rw [if_neg hc3] at hf
          refine lv_iload_n hx hb dX9_nextInImage_36 rfl (lv_at hl 4 rfl) ?_
          refine lv_iconst (v := (-1 : Int32)) hx hb dX9_nextInImage_37 (by decide) ?_
          refine lv_icmp_eq (tgt := 61) hx hb dX9_nextInImage_38 (by decide) (fun hc4 => ?_) (fun hc4 => ?_)
          · rw [if_pos hc4] at hf
            exact blk61 _ _ x1 x2 x3 x4 ls hP hS (lv_sub hl [1, 2, 3, 4, 5] rfl) hf
          · rw [if_neg hc4] at hf
            refine lv_iload hx hb dX9_nextInImage_41 (lv_at hl 0 rfl) ?_
            refine lv_aload_n hx hb dX9_nextInImage_43 rfl (lv_at hl 1 rfl) ?_
            refine va_get (ci := 7) (v := .ref (ad 3)) hx hb ht i_X9 hown hX.1 hP 0 mw_obj rfl 3 (by decide) (ht _ kFL_RX9_16) (fun _ h9 => h9) rfl dX9_nextInImage_44 ?_
            refine lv_sipush (v := (368 : Int32)) hx hb dX9_nextInImage_47 (by decide) ?_
            refine lv_iload_n hx hb dX9_nextInImage_50 rfl (lv_at hl 2 rfl) ?_
            refine lv_imul hx hb dX9_nextInImage_51 ?_
            refine lv_bipush (v := (6 : Int32)) hx hb dX9_nextInImage_52 (by decide) ?_
            refine lv_iload_n hx hb dX9_nextInImage_54 rfl (lv_at hl 4 rfl) ?_
            refine lv_imul hx hb dX9_nextInImage_55 ?_
            refine lv_iadd hx hb dX9_nextInImage_56 ?_
            obtain ⟨hn5, hf⟩ := ngE _ hf
            refine va_iald hx hb hX.1 hP 3 0 mw_images rfl hn5 dX9_nextInImage_57 ?_
            refine lv_icmp_ge (tgt := 65) hx hb dX9_nextInImage_58 (by decide) (fun hc6 => ?_) (fun hc6 => ?_)
            · rw [if_pos hc6] at hf
              exact blk65 _ _ x1 x2 x3 x4 ls hP hS (lv_sub hl [1, 2, 3, 4, 5] rfl) hf
            · rw [if_neg hc6] at hf
              exact blk61 _ _ x1 x2 x3 x4 ls hP hS (lv_sub hl [1, 2, 3, 4, 5] rfl) hf
  unfold fX9_nextInImage at hf
  refine lv_iconst (v := (-1 : Int32)) hx hb dX9_nextInImage_0 (by decide) ?_
  refine lv_istore_n (lv' := [(3, .int ((-1 : Int32))), (0, .ref (ad 0)), (1, .int x1), (2, .int x2)]) hx hb dX9_nextInImage_1 rfl hl (by decide) rfl (fun ls hl => ?_)
  refine lv_iconst (v := (0 : Int32)) hx hb dX9_nextInImage_2 (by decide) ?_
  refine lv_istore (lv' := [(4, .int ((0 : Int32))), (3, .int ((-1 : Int32))), (0, .ref (ad 0)), (1, .int x1), (2, .int x2)]) hx hb dX9_nextInImage_3 hl (by decide) rfl (fun ls hl => ?_)
  exact blk5 F _ _ x1 x2 (-1 : Int32) (0 : Int32) ls hP hS (lv_sub hl [2, 3, 4, 1, 0] rfl) hf
def fX9_join_98 (F : Nat) (images : Nat → Int32) (kept : Nat → Int32) (k44 : Int32 → (Nat → Int32) → (Nat → Int32) → Int32 → Int32 → Int32 → Option (Int32 × Int32 × (Nat → Int32) × (Nat → Int32))) (un : Int32) (now : Nat → Int32) (past : Nat → Int32) (x1 : Int32) (x4 : Int32) (y0 : Int32) (y1 : Int32) : Option (Int32 × Int32 × (Nat → Int32) × (Nat → Int32)) := (fX9_nextInImage F images x1 x4).bind fun q13 => (k44 un now past x1 (y0 + y1) q13)
def fX9_join_44 (F : Nat) (images : Nat → Int32) (kept : Nat → Int32) : Nat → Int32 → (Nat → Int32) → (Nat → Int32) → Int32 → Int32 → Int32 → Option (Int32 × Int32 × (Nat → Int32) × (Nat → Int32))
  | 0, _, _, _, _, _, _ => none
  | n + 1, un, now, past, x1, x2, x3 => if x3 = (-1 : Int32) then (some (x2, un, now, past)) else (if (((368 : Int32) * x1) + ((6 : Int32) * x3)) < 0 ∨ 736 ≤ (((368 : Int32) * x1) + ((6 : Int32) * x3)).toNatClampNeg then none else (if ((((368 : Int32) * x1) + ((6 : Int32) * x3)) + (1 : Int32)) < 0 ∨ 736 ≤ ((((368 : Int32) * x1) + ((6 : Int32) * x3)) + (1 : Int32)).toNatClampNeg then none else ((fX9_comes F now (images (((368 : Int32) * x1) + ((6 : Int32) * x3)).toNatClampNeg) (images ((((368 : Int32) * x1) + ((6 : Int32) * x3)) + (1 : Int32)).toNatClampNeg)).bind fun q11 => (if q11.1 = 0 then (fX9_join_98 F images kept (fun un now past x1 x2 x3 => fX9_join_44 F images kept n un now past x1 x2 x3) un q11.2 past x1 (images (((368 : Int32) * x1) + ((6 : Int32) * x3)).toNatClampNeg) x2 (0 : Int32)) else (fX9_join_98 F images kept (fun un now past x1 x2 x3 => fX9_join_44 F images kept n un now past x1 x2 x3) un q11.2 past x1 (images (((368 : Int32) * x1) + ((6 : Int32) * x3)).toNatClampNeg) x2 (1 : Int32))))))
def fX9_join (F : Nat) (un : Int32) (now : Nat → Int32) (past : Nat → Int32) (images : Nat → Int32) (kept : Nat → Int32) (x1 : Int32) : Option (Int32 × Int32 × (Nat → Int32) × (Nat → Int32)) := (fX9_in F x1.toInt64 (0 : Int64) (1 : Int64)).bind fun q1 => (if q1 = 0 then (some ((-1000000001 : Int32), un, now, past)) else (if x1 < 0 ∨ 2 ≤ x1.toNatClampNeg then none else (if (kept x1.toNatClampNeg) = 0 then (some ((-1000000003 : Int32), un, now, past)) else ((fX9_save F un now past).bind fun q5 => ((fX9_besideOf F now (100000 : Int32) (1 : Int32)).bind fun q6 => ((fX9_nextInImage F images x1 q6).bind fun q7 => (fX9_join_44 F images kept F q5.1 now q5.2 x1 (0 : Int32) q7)))))))
abbrev rX9_join : Room := { frames := 7, cells := 0, slots := 0, locals := 168 }
theorem wX9_join : kV yX9_join cX9_join 5 (some .int) 1 := ⟨kCO_yX9_join, kIM_yX9_join, kSE_yX9_join, kIN_RX9, by decide +kernel, by decide +kernel, by decide +kernel⟩
set_option maxHeartbeats 4000000 in
set_option maxRecDepth 100000 in
theorem tX9_join {l : Launch} {D : va_G} {cI cZ : ClassId} {ad : Nat → Nat} (hD : gInj 15 ad) {F : Nat} {un sd : Int32} {now past images iseed kept order numof above pile aside fewest deep keys worths : Nat → Int32} {x1 : Int32} {res : Int32 × Int32 × (Nat → Int32) × (Nat → Int32)} (hf : fX9_join F un now past images kept x1 = some res) : CTi l yX9_join cX9_join 5 .int rX9_join D (mTy cI cZ) (gA 15 ad) [.ref (ad 0), .int x1] (mw cI cZ ad un sd now past images iseed kept order numof above pile aside fewest deep keys worths) res.1 (mw cI cZ ad res.2.1 sd res.2.2.1 res.2.2.2 images iseed kept order numof above pile aside fewest deep keys worths) := by
  refine ct_int (by decide) (Nat.le_of_ble_eq_true rfl) ?_
  intro p e s m args below meth c Q ls hx hb hml hown ht hX hret hP hS hl
  have hl : lv_has ls 5 [(0, .ref (ad 0)), (1, .int x1)] := hl
  have blk44 : ∀ (n44 : Nat) (H : Heap) (locs : List Loc) (un : Int32) (now : Nat → Int32) (past : Nat → Int32) (x1 : Int32) (x2 : Int32) (x3 : Int32) (ls : Array Slot), va_P D vwCl (mw cI cZ ad un sd now past images iseed kept order numof above pile aside fewest deep keys worths) H → va_S (gA 15 ad) s.heap H locs → lv_has ls 5 [(0, .ref (ad 0)), (1, .int x1), (2, .int x2), (3, .int x3)] → fX9_join_44 F images kept n44 un now past x1 x2 x3 = some res → W p l e rX9_join s m args below meth c H locs 0 0 Q (F0 m 44 ls []) := by
    intro n44
    induction n44 with
    | zero =>
      intro H locs un now past x1 x2 x3 ls hP hS hl hf
      rw [fX9_join_44] at hf
      cases hf
    | succ n44 ih44 =>
      skip
      have blk98 : ∀ (H : Heap) (locs : List Loc) (un : Int32) (now : Nat → Int32) (past : Nat → Int32) (x1 : Int32) (x4 : Int32) (y0 : Int32) (y1 : Int32) (ls : Array Slot), va_P D vwCl (mw cI cZ ad un sd now past images iseed kept order numof above pile aside fewest deep keys worths) H → va_S (gA 15 ad) s.heap H locs → lv_has ls 5 [(0, .ref (ad 0)), (1, .int x1), (4, .int x4)] → fX9_join_98 F images kept (fun un now past x1 x2 x3 => fX9_join_44 F images kept n44 un now past x1 x2 x3) un now past x1 x4 y0 y1 = some res → W p l e rX9_join s m args below meth c H locs 0 0 Q (F0 m 98 ls [.int y1, .int y0]) := by
        intro H locs un now past x1 x4 y0 y1 ls hP hS hl hf
        unfold fX9_join_98 at hf
        refine lv_iadd hx hb dX9_join_98 ?_
        refine lv_istore_n (lv' := [(2, .int (y0 + y1)), (0, .ref (ad 0)), (1, .int x1), (4, .int x4)]) hx hb dX9_join_99 rfl hl (by decide) rfl (fun ls hl => ?_)
        refine lv_aload_n hx hb dX9_join_100 rfl (lv_at hl 1 rfl) ?_
        refine lv_iload_n hx hb dX9_join_101 rfl (lv_at hl 2 rfl) ?_
        refine lv_iload hx hb dX9_join_102 (lv_at hl 3 rfl) ?_
        obtain ⟨q13, hq13, hf⟩ := obE hf
        refine ct_cVi (rest := []) (tX9_nextInImage hD hq13) hx hb hml hown ht hX hP hS wX9_nextInImage kML_RX9_215 rfl rfl ⟨Nat.le_of_ble_eq_true rfl, Nat.le_of_ble_eq_true rfl⟩ (va_recv hX.1 hP rfl mw_obj) rfl hl.1 rfl (Nat.le_of_ble_eq_true rfl) dX9_join_104 (fun H locs hP hS => ?_)
        refine lv_istore_n (lv' := [(3, .int q13), (2, .int (y0 + y1)), (0, .ref (ad 0)), (1, .int x1), (4, .int x4)]) hx hb dX9_join_107 rfl hl (by decide) rfl (fun ls hl => ?_)
        refine lv_goto (tgt := 44) hx hb dX9_join_108 (by decide) ?_
        exact ih44 _ _ un now past x1 (y0 + y1) q13 ls hP hS (lv_sub hl [2, 3, 1, 0] rfl) hf
      intro H locs un now past x1 x2 x3 ls hP hS hl hf
      rw [fX9_join_44] at hf
      refine lv_iload_n hx hb dX9_join_44 rfl (lv_at hl 3 rfl) ?_
      refine lv_iconst (v := (-1 : Int32)) hx hb dX9_join_45 (by decide) ?_
      refine lv_icmp_eq (tgt := 111) hx hb dX9_join_46 (by decide) (fun hc8 => ?_) (fun hc8 => ?_)
      · rw [if_pos hc8] at hf
        refine lv_iload_n hx hb dX9_join_111 rfl (lv_at hl 2 rfl) ?_
        have e0 := Option.some.inj hf
        subst e0
        exact hret _ _ _ _ hP hS dX9_join_112
      · rw [if_neg hc8] at hf
        refine lv_aload_n hx hb dX9_join_49 rfl (lv_at hl 0 rfl) ?_
        refine va_get (ci := 7) (v := .ref (ad 3)) hx hb ht i_X9 hown hX.1 hP 0 mw_obj rfl 3 (by decide) (ht _ kFL_RX9_16) (fun _ h9 => h9) rfl dX9_join_50 ?_
        refine lv_sipush (v := (368 : Int32)) hx hb dX9_join_53 (by decide) ?_
        refine lv_iload_n hx hb dX9_join_56 rfl (lv_at hl 1 rfl) ?_
        refine lv_imul hx hb dX9_join_57 ?_
        refine lv_bipush (v := (6 : Int32)) hx hb dX9_join_58 (by decide) ?_
        refine lv_iload_n hx hb dX9_join_60 rfl (lv_at hl 3 rfl) ?_
        refine lv_imul hx hb dX9_join_61 ?_
        refine lv_iadd hx hb dX9_join_62 ?_
        obtain ⟨hn9, hf⟩ := ngE _ hf
        refine va_iald hx hb hX.1 hP 3 0 mw_images rfl hn9 dX9_join_63 ?_
        refine lv_istore (lv' := [(4, .int (images (((368 : Int32) * x1) + ((6 : Int32) * x3)).toNatClampNeg)), (0, .ref (ad 0)), (1, .int x1), (2, .int x2), (3, .int x3)]) hx hb dX9_join_64 hl (by decide) rfl (fun ls hl => ?_)
        refine lv_iload_n hx hb dX9_join_66 rfl (lv_at hl 3 rfl) ?_
        refine lv_aload_n hx hb dX9_join_67 rfl (lv_at hl 1 rfl) ?_
        refine lv_iload hx hb dX9_join_68 (lv_at hl 0 rfl) ?_
        refine lv_aload_n hx hb dX9_join_70 rfl (lv_at hl 1 rfl) ?_
        refine va_get (ci := 7) (v := .ref (ad 3)) hx hb ht i_X9 hown hX.1 hP 0 mw_obj rfl 3 (by decide) (ht _ kFL_RX9_16) (fun _ h9 => h9) rfl dX9_join_71 ?_
        refine lv_sipush (v := (368 : Int32)) hx hb dX9_join_74 (by decide) ?_
        refine lv_iload_n hx hb dX9_join_77 rfl (lv_at hl 2 rfl) ?_
        refine lv_imul hx hb dX9_join_78 ?_
        refine lv_bipush (v := (6 : Int32)) hx hb dX9_join_79 (by decide) ?_
        refine lv_iload_n hx hb dX9_join_81 rfl (lv_at hl 4 rfl) ?_
        refine lv_imul hx hb dX9_join_82 ?_
        refine lv_iadd hx hb dX9_join_83 ?_
        refine lv_iconst (v := (1 : Int32)) hx hb dX9_join_84 (by decide) ?_
        refine lv_iadd hx hb dX9_join_85 ?_
        obtain ⟨hn10, hf⟩ := ngE _ hf
        refine va_iald hx hb hX.1 hP 3 0 mw_images rfl hn10 dX9_join_86 ?_
        obtain ⟨q11, hq11, hf⟩ := obE hf
        refine ct_cVi (rest := [.int x2]) (tX9_comes hD hq11) hx hb hml hown ht hX hP hS wX9_comes kML_RX9_211 rfl rfl ⟨Nat.le_of_ble_eq_true rfl, Nat.le_of_ble_eq_true rfl⟩ (va_recv hX.1 hP rfl mw_obj) rfl hl.1 rfl (Nat.le_of_ble_eq_true rfl) dX9_join_87 (fun H locs hP hS => ?_)
        refine lv_if_eq (tgt := 97) hx hb dX9_join_90 (by decide) (fun hc12 => ?_) (fun hc12 => ?_)
        · rw [if_pos hc12] at hf
          refine lv_iconst (v := (0 : Int32)) hx hb dX9_join_97 (by decide) ?_
          exact blk98 _ _ un q11.2 past x1 (images (((368 : Int32) * x1) + ((6 : Int32) * x3)).toNatClampNeg) x2 (0 : Int32) ls hP hS (lv_sub hl [1, 2, 0] rfl) hf
        · rw [if_neg hc12] at hf
          refine lv_iconst (v := (1 : Int32)) hx hb dX9_join_93 (by decide) ?_
          refine lv_goto (tgt := 98) hx hb dX9_join_94 (by decide) ?_
          exact blk98 _ _ un q11.2 past x1 (images (((368 : Int32) * x1) + ((6 : Int32) * x3)).toNatClampNeg) x2 (1 : Int32) ls hP hS (lv_sub hl [1, 2, 0] rfl) hf
  unfold fX9_join at hf
  refine lv_iload_n hx hb dX9_join_0 rfl (lv_at hl 1 rfl) ?_
  refine lv_i2l (v := x1.toInt64) hx hb dX9_join_1 rfl ?_
  refine lv_lconst (v := (0 : Int64)) hx hb dX9_join_2 (by decide) ?_
  refine lv_lconst (v := (1 : Int64)) hx hb dX9_join_3 (by decide) ?_
  obtain ⟨q1, hq1, hf⟩ := obE hf
  refine ct_cSi (rest := []) (tX9_in hD hq1) hx hb hml hown ht hX hP hS wX9_in kML_RX9_172 rfl rfl ⟨Nat.le_of_ble_eq_true rfl, Nat.le_of_ble_eq_true rfl⟩ rfl hl.1 rfl (Nat.le_of_ble_eq_true rfl) dX9_join_4 (fun H locs hP hS => ?_)
  refine lv_if_ne (tgt := 13) hx hb dX9_join_7 (by decide) (fun hc2 => ?_) (fun hc2 => ?_)
  · rw [if_neg hc2] at hf
    refine lv_aload_n hx hb dX9_join_13 rfl (lv_at hl 0 rfl) ?_
    refine va_get (ci := 7) (v := .ref (ad 5)) hx hb ht i_X9 hown hX.1 hP 0 mw_obj rfl 5 (by decide) (ht _ kFL_RX9_22) (fun _ h9 => h9) rfl dX9_join_14 ?_
    refine lv_iload_n hx hb dX9_join_17 rfl (lv_at hl 1 rfl) ?_
    obtain ⟨hn3, hf⟩ := ngE _ hf
    refine va_zald hx hb hX.1 hP 5 1 mw_kept rfl hn3 dX9_join_18 ?_
    refine lv_if_ne (tgt := 25) hx hb dX9_join_19 (by decide) (fun hc4 => ?_) (fun hc4 => ?_)
    · rw [if_neg hc4] at hf
      refine lv_iconst (v := (0 : Int32)) hx hb dX9_join_25 (by decide) ?_
      refine lv_istore_n (lv' := [(2, .int ((0 : Int32))), (0, .ref (ad 0)), (1, .int x1)]) hx hb dX9_join_26 rfl hl (by decide) rfl (fun ls hl => ?_)
      refine lv_aload_n hx hb dX9_join_27 rfl (lv_at hl 1 rfl) ?_
      obtain ⟨q5, hq5, hf⟩ := obE hf
      refine ct_cVv (rest := []) (tX9_save hD hq5) hx hb hml hown ht hX hP hS wX9_save kML_RX9_201 rfl rfl ⟨Nat.le_of_ble_eq_true rfl, Nat.le_of_ble_eq_true rfl⟩ (va_recv hX.1 hP rfl mw_obj) rfl hl.1 rfl (Nat.le_of_ble_eq_true rfl) dX9_join_28 (fun H locs hP hS => ?_)
      refine lv_aload_n hx hb dX9_join_31 rfl (lv_at hl 1 rfl) ?_
      refine lv_iload_n hx hb dX9_join_32 rfl (lv_at hl 2 rfl) ?_
      refine lv_aload_n hx hb dX9_join_33 rfl (lv_at hl 1 rfl) ?_
      refine lv_ldc hx hb hown (ht _ kKI_RX9_214) dX9_join_34 ?_
      refine lv_iconst (v := (1 : Int32)) hx hb dX9_join_36 (by decide) ?_
      obtain ⟨q6, hq6, hf⟩ := obE hf
      refine ct_cVi (rest := [.int x1, .ref (ad 0)]) (tX9_besideOf hD hq6) hx hb hml hown ht hX hP hS wX9_besideOf kML_RX9_140 rfl rfl ⟨Nat.le_of_ble_eq_true rfl, Nat.le_of_ble_eq_true rfl⟩ (va_recv hX.1 hP rfl mw_obj) rfl hl.1 rfl (Nat.le_of_ble_eq_true rfl) dX9_join_37 (fun H locs hP hS => ?_)
      obtain ⟨q7, hq7, hf⟩ := obE hf
      refine ct_cVi (rest := []) (tX9_nextInImage hD hq7) hx hb hml hown ht hX hP hS wX9_nextInImage kML_RX9_215 rfl rfl ⟨Nat.le_of_ble_eq_true rfl, Nat.le_of_ble_eq_true rfl⟩ (va_recv hX.1 hP rfl mw_obj) rfl hl.1 rfl (Nat.le_of_ble_eq_true rfl) dX9_join_40 (fun H locs hP hS => ?_)
      refine lv_istore_n (lv' := [(3, .int q7), (2, .int ((0 : Int32))), (0, .ref (ad 0)), (1, .int x1)]) hx hb dX9_join_43 rfl hl (by decide) rfl (fun ls hl => ?_)
      exact blk44 F _ _ q5.1 now q5.2 x1 (0 : Int32) q7 ls hP hS (lv_sub hl [2, 3, 1, 0] rfl) hf
    · rw [if_pos hc4] at hf
      refine lv_ldc hx hb hown (ht _ kKI_RX9_199) dX9_join_22 ?_
      have e0 := Option.some.inj hf
      subst e0
      exact hret _ _ _ _ hP hS dX9_join_24
  · rw [if_pos hc2] at hf
    refine lv_ldc hx hb hown (ht _ kKI_RX9_179) dX9_join_10 ?_
    have e0 := Option.some.inj hf
    subst e0
    exact hret _ _ _ _ hP hS dX9_join_12
def fX9_draw (F : Nat) (sd : Int32) (x1 : Int32) : Option (Int32 × Int32) := if (2147483648 : Int64) = 0 then none else (if (65536 : Int32) = 0 then none else (if x1 = 0 then none else (some ((((((sd.toInt64 * (1103515245 : Int64)) + (12345 : Int64)) - ((sd.toInt64 * (1103515245 : Int64)) + (12345 : Int64)) / (2147483648 : Int64) * (2147483648 : Int64)).toInt32) / (65536 : Int32)) - (((((sd.toInt64 * (1103515245 : Int64)) + (12345 : Int64)) - ((sd.toInt64 * (1103515245 : Int64)) + (12345 : Int64)) / (2147483648 : Int64) * (2147483648 : Int64)).toInt32) / (65536 : Int32)) / x1 * x1, (((sd.toInt64 * (1103515245 : Int64)) + (12345 : Int64)) - ((sd.toInt64 * (1103515245 : Int64)) + (12345 : Int64)) / (2147483648 : Int64) * (2147483648 : Int64)).toInt32))))
abbrev rX9_draw : Room := { frames := 0, cells := 0, slots := 0, locals := 0 }
theorem wX9_draw : kV yX9_draw cX9_draw 2 (some .int) 1 := ⟨kCO_yX9_draw, kIM_yX9_draw, kSE_yX9_draw, kIN_RX9, by decide +kernel, by decide +kernel, by decide +kernel⟩
set_option maxHeartbeats 4000000 in
set_option maxRecDepth 100000 in
theorem tX9_draw {l : Launch} {D : va_G} {cI cZ : ClassId} {ad : Nat → Nat} (hD : gInj 15 ad) {F : Nat} {un sd : Int32} {now past images iseed kept order numof above pile aside fewest deep keys worths : Nat → Int32} {x1 : Int32} {res : Int32 × Int32} (hf : fX9_draw F sd x1 = some res) : CTi l yX9_draw cX9_draw 2 .int rX9_draw D (mTy cI cZ) (gA 15 ad) [.ref (ad 0), .int x1] (mw cI cZ ad un sd now past images iseed kept order numof above pile aside fewest deep keys worths) res.1 (mw cI cZ ad un res.2 now past images iseed kept order numof above pile aside fewest deep keys worths) := by
  refine ct_int (by decide) (Nat.le_of_ble_eq_true rfl) ?_
  intro p e s m args below meth c Q ls hx hb hml hown ht hX hret hP hS hl
  have hl : lv_has ls 2 [(0, .ref (ad 0)), (1, .int x1)] := hl
  unfold fX9_draw at hf
  refine lv_aload_n hx hb dX9_draw_0 rfl (lv_at hl 0 rfl) ?_
  refine lv_aload_n hx hb dX9_draw_1 rfl (lv_at hl 0 rfl) ?_
  refine va_get (ci := 7) (v := .int sd) hx hb ht i_X9 hown hX.1 hP 0 mw_obj rfl 6 (by decide) (ht _ kFL_RX9_218) (fun _ h9 => h9) rfl dX9_draw_2 ?_
  refine lv_i2l (v := sd.toInt64) hx hb dX9_draw_5 rfl ?_
  refine lv_ldc2 hx hb hown (ht _ kKJ_RX9_221) dX9_draw_6 ?_
  refine lv_lmul hx hb dX9_draw_9 ?_
  refine lv_ldc2 hx hb hown (ht _ kKJ_RX9_223) dX9_draw_10 ?_
  refine lv_ladd hx hb dX9_draw_13 ?_
  refine lv_ldc2 hx hb hown (ht _ kKJ_RX9_225) dX9_draw_14 ?_
  obtain ⟨hq1, hf⟩ := ngE _ hf
  refine lv_lrem hx hb dX9_draw_17 hq1 ?_
  refine lv_l2i (v := (((sd.toInt64 * (1103515245 : Int64)) + (12345 : Int64)) - ((sd.toInt64 * (1103515245 : Int64)) + (12345 : Int64)) / (2147483648 : Int64) * (2147483648 : Int64)).toInt32) hx hb dX9_draw_18 rfl ?_
  refine mr_putSd hD hx hb ht hown hX hP hS kFL_RX9_218 dX9_draw_19 (fun H locs hP hS => ?_)
  refine lv_aload_n hx hb dX9_draw_22 rfl (lv_at hl 0 rfl) ?_
  refine va_get (ci := 7) (v := .int ((((sd.toInt64 * (1103515245 : Int64)) + (12345 : Int64)) - ((sd.toInt64 * (1103515245 : Int64)) + (12345 : Int64)) / (2147483648 : Int64) * (2147483648 : Int64)).toInt32)) hx hb ht i_X9 hown hX.1 hP 0 mw_obj rfl 6 (by decide) (ht _ kFL_RX9_218) (fun _ h9 => h9) rfl dX9_draw_23 ?_
  refine lv_ldc hx hb hown (ht _ kKI_RX9_227) dX9_draw_26 ?_
  obtain ⟨hq2, hf⟩ := ngE _ hf
  refine lv_idiv hx hb dX9_draw_28 hq2 ?_
  refine lv_iload_n hx hb dX9_draw_29 rfl (lv_at hl 1 rfl) ?_
  obtain ⟨hq3, hf⟩ := ngE _ hf
  refine lv_irem hx hb dX9_draw_30 hq3 ?_
  have e0 := Option.some.inj hf
  subst e0
  exact hret _ _ _ _ hP hS dX9_draw_31
def fX9_drift_83 (F : Nat) (k17 : Int32 → Int32 → (Nat → Int32) → (Nat → Int32) → Int32 → Int32 → Option (Int32 × Int32 × Int32 × (Nat → Int32) × (Nat → Int32))) (un : Int32) (sd : Int32) (now : Nat → Int32) (past : Nat → Int32) (x1 : Int32) (x2 : Int32) (x3 : Int32) (x4 : Int32) (x5 : Int32) : Option (Int32 × Int32 × Int32 × (Nat → Int32) × (Nat → Int32)) := if x3 = (2 : Int32) then (if x5 = 0 then (k17 un sd now past x1 (x2 + (1 : Int32))) else ((fX9_find F now x4).bind fun q17 => ((fX9_takes F now q17).bind fun q18 => (k17 un sd q18 past x1 (x2 + (1 : Int32)))))) else (k17 un sd now past x1 (x2 + (1 : Int32)))
def fX9_drift_17 (F : Nat) : Nat → Int32 → Int32 → (Nat → Int32) → (Nat → Int32) → Int32 → Int32 → Option (Int32 × Int32 × Int32 × (Nat → Int32) × (Nat → Int32))
  | 0, _, _, _, _, _, _ => none
  | n + 1, un, sd, now, past, x1, x2 => if x1 ≤ x2 then ((fX9_many F now).bind fun q4 => (some (q4, un, sd, now, past))) else ((fX9_draw F sd (3 : Int32)).bind fun q5 => ((fX9_draw F q5.2 (200 : Int32)).bind fun q6 => ((fX9_isThere F now q6.1).bind fun q7 => ((fX9_save F un now past).bind fun q8 => (if (2 : Int32) ≤ q5.1 then (fX9_drift_83 F (fun un sd now past x1 x2 => fX9_drift_17 F n un sd now past x1 x2) q8.1 q6.2 now q8.2 x1 x2 q5.1 q6.1 q7) else (if q7 = 0 then ((fX9_many F now).bind fun q11 => (if (60 : Int32) ≤ q11 then (fX9_drift_83 F (fun un sd now past x1 x2 => fX9_drift_17 F n un sd now past x1 x2) q8.1 q6.2 now q8.2 x1 x2 q5.1 q6.1 q7) else ((fX9_draw F q6.2 (100 : Int32)).bind fun q13 => ((fX9_puts F now q6.1 q13.1).bind fun q14 => (fX9_drift_17 F n q8.1 q13.2 q14 q8.2 x1 (x2 + (1 : Int32))))))) else (fX9_drift_83 F (fun un sd now past x1 x2 => fX9_drift_17 F n un sd now past x1 x2) q8.1 q6.2 now q8.2 x1 x2 q5.1 q6.1 q7)))))))
def fX9_drift (F : Nat) (un : Int32) (sd : Int32) (now : Nat → Int32) (past : Nat → Int32) (x1 : Int32) : Option (Int32 × Int32 × Int32 × (Nat → Int32) × (Nat → Int32)) := (fX9_in F x1.toInt64 (1 : Int64) (12 : Int64)).bind fun q1 => (if q1 = 0 then (some ((-1000000002 : Int32), un, sd, now, past)) else (fX9_drift_17 F F un sd now past x1 (0 : Int32)))
abbrev rX9_drift : Room := { frames := 6, cells := 0, slots := 0, locals := 148 }
theorem wX9_drift : kV yX9_drift cX9_drift 6 (some .int) 1 := ⟨kCO_yX9_drift, kIM_yX9_drift, kSE_yX9_drift, kIN_RX9, by decide +kernel, by decide +kernel, by decide +kernel⟩
set_option maxHeartbeats 4000000 in
set_option maxRecDepth 100000 in
theorem tX9_drift {l : Launch} {D : va_G} {cI cZ : ClassId} {ad : Nat → Nat} (hD : gInj 15 ad) {F : Nat} {un sd : Int32} {now past images iseed kept order numof above pile aside fewest deep keys worths : Nat → Int32} {x1 : Int32} {res : Int32 × Int32 × Int32 × (Nat → Int32) × (Nat → Int32)} (hf : fX9_drift F un sd now past x1 = some res) : CTi l yX9_drift cX9_drift 6 .int rX9_drift D (mTy cI cZ) (gA 15 ad) [.ref (ad 0), .int x1] (mw cI cZ ad un sd now past images iseed kept order numof above pile aside fewest deep keys worths) res.1 (mw cI cZ ad res.2.1 res.2.2.1 res.2.2.2.1 res.2.2.2.2 images iseed kept order numof above pile aside fewest deep keys worths) := by
  refine ct_int (by decide) (Nat.le_of_ble_eq_true rfl) ?_
  intro p e s m args below meth c Q ls hx hb hml hown ht hX hret hP hS hl
  have hl : lv_has ls 6 [(0, .ref (ad 0)), (1, .int x1)] := hl
  have blk17 : ∀ (n17 : Nat) (H : Heap) (locs : List Loc) (un : Int32) (sd : Int32) (now : Nat → Int32) (past : Nat → Int32) (x1 : Int32) (x2 : Int32) (ls : Array Slot), va_P D vwCl (mw cI cZ ad un sd now past images iseed kept order numof above pile aside fewest deep keys worths) H → va_S (gA 15 ad) s.heap H locs → lv_has ls 6 [(0, .ref (ad 0)), (1, .int x1), (2, .int x2)] → fX9_drift_17 F n17 un sd now past x1 x2 = some res → W p l e rX9_drift s m args below meth c H locs 0 0 Q (F0 m 17 ls []) := by
    intro n17
    induction n17 with
    | zero =>
      intro H locs un sd now past x1 x2 ls hP hS hl hf
      rw [fX9_drift_17] at hf
      cases hf
    | succ n17 ih17 =>
      skip
      have blk83 : ∀ (H : Heap) (locs : List Loc) (un : Int32) (sd : Int32) (now : Nat → Int32) (past : Nat → Int32) (x1 : Int32) (x2 : Int32) (x3 : Int32) (x4 : Int32) (x5 : Int32) (ls : Array Slot), va_P D vwCl (mw cI cZ ad un sd now past images iseed kept order numof above pile aside fewest deep keys worths) H → va_S (gA 15 ad) s.heap H locs → lv_has ls 6 [(0, .ref (ad 0)), (1, .int x1), (2, .int x2), (3, .int x3), (4, .int x4), (5, .int x5)] → fX9_drift_83 F (fun un sd now past x1 x2 => fX9_drift_17 F n17 un sd now past x1 x2) un sd now past x1 x2 x3 x4 x5 = some res → W p l e rX9_drift s m args below meth c H locs 0 0 Q (F0 m 83 ls []) := by
        intro H locs un sd now past x1 x2 x3 x4 x5 ls hP hS hl hf
        unfold fX9_drift_83 at hf
        refine lv_iload_n hx hb dX9_drift_83 rfl (lv_at hl 3 rfl) ?_
        refine lv_iconst (v := (2 : Int32)) hx hb dX9_drift_84 (by decide) ?_
        refine lv_icmp_ne (tgt := 103) hx hb dX9_drift_85 (by decide) (fun hc15 => ?_) (fun hc15 => ?_)
        · rw [if_neg hc15] at hf
          refine lv_iinc (v := x2 + (1 : Int32)) (lv' := [(2, .int (x2 + (1 : Int32))), (0, .ref (ad 0)), (1, .int x1), (3, .int x3), (4, .int x4), (5, .int x5)]) hx hb dX9_drift_103 hl (k := 2) rfl rfl (by decide) rfl (fun ls hl => ?_)
          refine lv_goto (tgt := 17) hx hb dX9_drift_106 (by decide) ?_
          exact ih17 _ _ un sd now past x1 (x2 + (1 : Int32)) ls hP hS (lv_sub hl [1, 2, 0] rfl) hf
        · rw [if_pos hc15] at hf
          refine lv_iload hx hb dX9_drift_88 (lv_at hl 5 rfl) ?_
          refine lv_if_eq (tgt := 103) hx hb dX9_drift_90 (by decide) (fun hc16 => ?_) (fun hc16 => ?_)
          · rw [if_pos hc16] at hf
            refine lv_iinc (v := x2 + (1 : Int32)) (lv' := [(2, .int (x2 + (1 : Int32))), (0, .ref (ad 0)), (1, .int x1), (3, .int x3), (4, .int x4), (5, .int x5)]) hx hb dX9_drift_103 hl (k := 2) rfl rfl (by decide) rfl (fun ls hl => ?_)
            refine lv_goto (tgt := 17) hx hb dX9_drift_106 (by decide) ?_
            exact ih17 _ _ un sd now past x1 (x2 + (1 : Int32)) ls hP hS (lv_sub hl [1, 2, 0] rfl) hf
          · rw [if_neg hc16] at hf
            refine lv_aload_n hx hb dX9_drift_93 rfl (lv_at hl 0 rfl) ?_
            refine lv_aload_n hx hb dX9_drift_94 rfl (lv_at hl 0 rfl) ?_
            refine lv_iload hx hb dX9_drift_95 (lv_at hl 4 rfl) ?_
            obtain ⟨q17, hq17, hf⟩ := obE hf
            refine ct_cVi (rest := [.ref (ad 0)]) (tX9_find hD hq17) hx hb hml hown ht hX hP hS wX9_find kML_RX9_134 rfl rfl ⟨Nat.le_of_ble_eq_true rfl, Nat.le_of_ble_eq_true rfl⟩ (va_recv hX.1 hP rfl mw_obj) rfl hl.1 rfl (Nat.le_of_ble_eq_true rfl) dX9_drift_97 (fun H locs hP hS => ?_)
            obtain ⟨q18, hq18, hf⟩ := obE hf
            refine ct_cVv (rest := []) (tX9_takes hD hq18) hx hb hml hown ht hX hP hS wX9_takes kML_RX9_137 rfl rfl ⟨Nat.le_of_ble_eq_true rfl, Nat.le_of_ble_eq_true rfl⟩ (va_recv hX.1 hP rfl mw_obj) rfl hl.1 rfl (Nat.le_of_ble_eq_true rfl) dX9_drift_100 (fun H locs hP hS => ?_)
            refine lv_iinc (v := x2 + (1 : Int32)) (lv' := [(2, .int (x2 + (1 : Int32))), (0, .ref (ad 0)), (1, .int x1), (3, .int x3), (4, .int x4), (5, .int x5)]) hx hb dX9_drift_103 hl (k := 2) rfl rfl (by decide) rfl (fun ls hl => ?_)
            refine lv_goto (tgt := 17) hx hb dX9_drift_106 (by decide) ?_
            exact ih17 _ _ un sd q18 past x1 (x2 + (1 : Int32)) ls hP hS (lv_sub hl [1, 2, 0] rfl) hf
      intro H locs un sd now past x1 x2 ls hP hS hl hf
      rw [fX9_drift_17] at hf
      refine lv_iload_n hx hb dX9_drift_17 rfl (lv_at hl 2 rfl) ?_
      refine lv_iload_n hx hb dX9_drift_18 rfl (lv_at hl 1 rfl) ?_
      refine lv_icmp_ge (tgt := 109) hx hb dX9_drift_19 (by decide) (fun hc3 => ?_) (fun hc3 => ?_)
      · rw [if_pos hc3] at hf
        refine lv_aload_n hx hb dX9_drift_109 rfl (lv_at hl 0 rfl) ?_
        obtain ⟨q4, hq4, hf⟩ := obE hf
        refine ct_cVi (rest := []) (tX9_many hD hq4) hx hb hml hown ht hX hP hS wX9_many kML_RX9_128 rfl rfl ⟨Nat.le_of_ble_eq_true rfl, Nat.le_of_ble_eq_true rfl⟩ (va_recv hX.1 hP rfl mw_obj) rfl hl.1 rfl (Nat.le_of_ble_eq_true rfl) dX9_drift_110 (fun H locs hP hS => ?_)
        have e0 := Option.some.inj hf
        subst e0
        exact hret _ _ _ _ hP hS dX9_drift_113
      · rw [if_neg hc3] at hf
        refine lv_aload_n hx hb dX9_drift_22 rfl (lv_at hl 0 rfl) ?_
        refine lv_iconst (v := (3 : Int32)) hx hb dX9_drift_23 (by decide) ?_
        obtain ⟨q5, hq5, hf⟩ := obE hf
        refine ct_cVi (rest := []) (tX9_draw hD hq5) hx hb hml hown ht hX hP hS wX9_draw kML_RX9_230 rfl rfl ⟨Nat.le_of_ble_eq_true rfl, Nat.le_of_ble_eq_true rfl⟩ (va_recv hX.1 hP rfl mw_obj) rfl hl.1 rfl (Nat.le_of_ble_eq_true rfl) dX9_drift_24 (fun H locs hP hS => ?_)
        refine lv_istore_n (lv' := [(3, .int q5.1), (0, .ref (ad 0)), (1, .int x1), (2, .int x2)]) hx hb dX9_drift_27 rfl hl (by decide) rfl (fun ls hl => ?_)
        refine lv_aload_n hx hb dX9_drift_28 rfl (lv_at hl 1 rfl) ?_
        refine lv_sipush (v := (200 : Int32)) hx hb dX9_drift_29 (by decide) ?_
        obtain ⟨q6, hq6, hf⟩ := obE hf
        refine ct_cVi (rest := []) (tX9_draw hD hq6) hx hb hml hown ht hX hP hS wX9_draw kML_RX9_230 rfl rfl ⟨Nat.le_of_ble_eq_true rfl, Nat.le_of_ble_eq_true rfl⟩ (va_recv hX.1 hP rfl mw_obj) rfl hl.1 rfl (Nat.le_of_ble_eq_true rfl) dX9_drift_32 (fun H locs hP hS => ?_)
        refine lv_istore (lv' := [(4, .int q6.1), (3, .int q5.1), (0, .ref (ad 0)), (1, .int x1), (2, .int x2)]) hx hb dX9_drift_35 hl (by decide) rfl (fun ls hl => ?_)
        refine lv_aload_n hx hb dX9_drift_37 rfl (lv_at hl 2 rfl) ?_
        refine lv_iload hx hb dX9_drift_38 (lv_at hl 0 rfl) ?_
        obtain ⟨q7, hq7, hf⟩ := obE hf
        refine ct_cVi (rest := []) (tX9_isThere hD hq7) hx hb hml hown ht hX hP hS wX9_isThere kML_RX9_196 rfl rfl ⟨Nat.le_of_ble_eq_true rfl, Nat.le_of_ble_eq_true rfl⟩ (va_recv hX.1 hP rfl mw_obj) rfl hl.1 rfl (Nat.le_of_ble_eq_true rfl) dX9_drift_40 (fun H locs hP hS => ?_)
        refine lv_istore (lv' := [(5, .int q7), (4, .int q6.1), (3, .int q5.1), (0, .ref (ad 0)), (1, .int x1), (2, .int x2)]) hx hb dX9_drift_43 hl (by decide) rfl (fun ls hl => ?_)
        refine lv_aload_n hx hb dX9_drift_45 rfl (lv_at hl 3 rfl) ?_
        obtain ⟨q8, hq8, hf⟩ := obE hf
        refine ct_cVv (rest := []) (tX9_save hD hq8) hx hb hml hown ht hX hP hS wX9_save kML_RX9_201 rfl rfl ⟨Nat.le_of_ble_eq_true rfl, Nat.le_of_ble_eq_true rfl⟩ (va_recv hX.1 hP rfl mw_obj) rfl hl.1 rfl (Nat.le_of_ble_eq_true rfl) dX9_drift_46 (fun H locs hP hS => ?_)
        refine lv_iload_n hx hb dX9_drift_49 rfl (lv_at hl 2 rfl) ?_
        refine lv_iconst (v := (2 : Int32)) hx hb dX9_drift_50 (by decide) ?_
        refine lv_icmp_ge (tgt := 83) hx hb dX9_drift_51 (by decide) (fun hc9 => ?_) (fun hc9 => ?_)
        · rw [if_pos hc9] at hf
          exact blk83 _ _ q8.1 q6.2 now q8.2 x1 x2 q5.1 q6.1 q7 ls hP hS (lv_sub hl [3, 4, 5, 2, 1, 0] rfl) hf
        · rw [if_neg hc9] at hf
          refine lv_iload hx hb dX9_drift_54 (lv_at hl 0 rfl) ?_
          refine lv_if_ne (tgt := 83) hx hb dX9_drift_56 (by decide) (fun hc10 => ?_) (fun hc10 => ?_)
          · rw [if_neg hc10] at hf
            exact blk83 _ _ q8.1 q6.2 now q8.2 x1 x2 q5.1 q6.1 q7 ls hP hS (lv_sub hl [3, 4, 5, 2, 1, 0] rfl) hf
          · rw [if_pos hc10] at hf
            refine lv_aload_n hx hb dX9_drift_59 rfl (lv_at hl 3 rfl) ?_
            obtain ⟨q11, hq11, hf⟩ := obE hf
            refine ct_cVi (rest := []) (tX9_many hD hq11) hx hb hml hown ht hX hP hS wX9_many kML_RX9_128 rfl rfl ⟨Nat.le_of_ble_eq_true rfl, Nat.le_of_ble_eq_true rfl⟩ (va_recv hX.1 hP rfl mw_obj) rfl hl.1 rfl (Nat.le_of_ble_eq_true rfl) dX9_drift_60 (fun H locs hP hS => ?_)
            refine lv_bipush (v := (60 : Int32)) hx hb dX9_drift_63 (by decide) ?_
            refine lv_icmp_ge (tgt := 83) hx hb dX9_drift_65 (by decide) (fun hc12 => ?_) (fun hc12 => ?_)
            · rw [if_pos hc12] at hf
              exact blk83 _ _ q8.1 q6.2 now q8.2 x1 x2 q5.1 q6.1 q7 ls hP hS (lv_sub hl [3, 4, 5, 2, 1, 0] rfl) hf
            · rw [if_neg hc12] at hf
              refine lv_aload_n hx hb dX9_drift_68 rfl (lv_at hl 3 rfl) ?_
              refine lv_iload hx hb dX9_drift_69 (lv_at hl 1 rfl) ?_
              refine lv_aload_n hx hb dX9_drift_71 rfl (lv_at hl 3 rfl) ?_
              refine lv_bipush (v := (100 : Int32)) hx hb dX9_drift_72 (by decide) ?_
              obtain ⟨q13, hq13, hf⟩ := obE hf
              refine ct_cVi (rest := [.int q6.1, .ref (ad 0)]) (tX9_draw hD hq13) hx hb hml hown ht hX hP hS wX9_draw kML_RX9_230 rfl rfl ⟨Nat.le_of_ble_eq_true rfl, Nat.le_of_ble_eq_true rfl⟩ (va_recv hX.1 hP rfl mw_obj) rfl hl.1 rfl (Nat.le_of_ble_eq_true rfl) dX9_drift_74 (fun H locs hP hS => ?_)
              obtain ⟨q14, hq14, hf⟩ := obE hf
              refine ct_cVv (rest := []) (tX9_puts hD hq14) hx hb hml hown ht hX hP hS wX9_puts kML_RX9_204 rfl rfl ⟨Nat.le_of_ble_eq_true rfl, Nat.le_of_ble_eq_true rfl⟩ (va_recv hX.1 hP rfl mw_obj) rfl hl.1 rfl (Nat.le_of_ble_eq_true rfl) dX9_drift_77 (fun H locs hP hS => ?_)
              refine lv_goto (tgt := 103) hx hb dX9_drift_80 (by decide) ?_
              refine lv_iinc (v := x2 + (1 : Int32)) (lv' := [(2, .int (x2 + (1 : Int32))), (5, .int q7), (4, .int q6.1), (3, .int q5.1), (0, .ref (ad 0)), (1, .int x1)]) hx hb dX9_drift_103 hl (k := 5) rfl rfl (by decide) rfl (fun ls hl => ?_)
              refine lv_goto (tgt := 17) hx hb dX9_drift_106 (by decide) ?_
              exact ih17 _ _ q8.1 q13.2 q14 q8.2 x1 (x2 + (1 : Int32)) ls hP hS (lv_sub hl [4, 5, 0] rfl) hf
  unfold fX9_drift at hf
  refine lv_iload_n hx hb dX9_drift_0 rfl (lv_at hl 1 rfl) ?_
  refine lv_i2l (v := x1.toInt64) hx hb dX9_drift_1 rfl ?_
  refine lv_lconst (v := (1 : Int64)) hx hb dX9_drift_2 (by decide) ?_
  refine lv_ldc2 hx hb hown (ht _ kKJ_RX9_228) dX9_drift_3 ?_
  obtain ⟨q1, hq1, hf⟩ := obE hf
  refine ct_cSi (rest := []) (tX9_in hD hq1) hx hb hml hown ht hX hP hS wX9_in kML_RX9_172 rfl rfl ⟨Nat.le_of_ble_eq_true rfl, Nat.le_of_ble_eq_true rfl⟩ rfl hl.1 rfl (Nat.le_of_ble_eq_true rfl) dX9_drift_6 (fun H locs hP hS => ?_)
  refine lv_if_ne (tgt := 15) hx hb dX9_drift_9 (by decide) (fun hc2 => ?_) (fun hc2 => ?_)
  · rw [if_neg hc2] at hf
    refine lv_iconst (v := (0 : Int32)) hx hb dX9_drift_15 (by decide) ?_
    refine lv_istore_n (lv' := [(2, .int ((0 : Int32))), (0, .ref (ad 0)), (1, .int x1)]) hx hb dX9_drift_16 rfl hl (by decide) rfl (fun ls hl => ?_)
    exact blk17 F _ _ un sd now past x1 (0 : Int32) ls hP hS (lv_sub hl [1, 2, 0] rfl) hf
  · rw [if_pos hc2] at hf
    refine lv_ldc hx hb hown (ht _ kKI_RX9_171) dX9_drift_12 ?_
    have e0 := Option.some.inj hf
    subst e0
    exact hret _ _ _ _ hP hS dX9_drift_14
def fX9_undo_38 (F : Nat) (past : Nat → Int32) : Nat → Int32 → (Nat → Int32) → Int32 → Option (Int32 × Int32 × (Nat → Int32))
  | 0, _, _, _ => none
  | n + 1, un, now, x2 => if (368 : Int32) ≤ x2 then ((fX9_many F now).bind fun q5 => (some (q5, un, now))) else (if (((368 : Int32) * un) + x2) < 0 ∨ 4416 ≤ (((368 : Int32) * un) + x2).toNatClampNeg then none else (if x2 < 0 ∨ 368 ≤ x2.toNatClampNeg then none else (fX9_undo_38 F past n un (upd now x2.toNatClampNeg (past (((368 : Int32) * un) + x2).toNatClampNeg)) (x2 + (1 : Int32)))))
def fX9_undo (F : Nat) (un : Int32) (now : Nat → Int32) (past : Nat → Int32) (x1 : Int32) : Option (Int32 × Int32 × (Nat → Int32)) := (fX9_in F x1.toInt64 (1 : Int64) (12 : Int64)).bind fun q1 => (if q1 = 0 then (some ((-1000000002 : Int32), un, now)) else (if x1 ≤ un then (fX9_undo_38 F past F (un - x1) now (0 : Int32)) else (some ((-1000000003 : Int32), un, now))))
abbrev rX9_undo : Room := { frames := 1, cells := 0, slots := 0, locals := 25 }
theorem wX9_undo : kV yX9_undo cX9_undo 3 (some .int) 1 := ⟨kCO_yX9_undo, kIM_yX9_undo, kSE_yX9_undo, kIN_RX9, by decide +kernel, by decide +kernel, by decide +kernel⟩
set_option maxHeartbeats 4000000 in
set_option maxRecDepth 100000 in
theorem tX9_undo {l : Launch} {D : va_G} {cI cZ : ClassId} {ad : Nat → Nat} (hD : gInj 15 ad) {F : Nat} {un sd : Int32} {now past images iseed kept order numof above pile aside fewest deep keys worths : Nat → Int32} {x1 : Int32} {res : Int32 × Int32 × (Nat → Int32)} (hf : fX9_undo F un now past x1 = some res) : CTi l yX9_undo cX9_undo 3 .int rX9_undo D (mTy cI cZ) (gA 15 ad) [.ref (ad 0), .int x1] (mw cI cZ ad un sd now past images iseed kept order numof above pile aside fewest deep keys worths) res.1 (mw cI cZ ad res.2.1 sd res.2.2 past images iseed kept order numof above pile aside fewest deep keys worths) := by
  refine ct_int (by decide) (Nat.le_of_ble_eq_true rfl) ?_
  intro p e s m args below meth c Q ls hx hb hml hown ht hX hret hP hS hl
  have hl : lv_has ls 3 [(0, .ref (ad 0)), (1, .int x1)] := hl
  have blk38 : ∀ (n38 : Nat) (H : Heap) (locs : List Loc) (un : Int32) (now : Nat → Int32) (x2 : Int32) (ls : Array Slot), va_P D vwCl (mw cI cZ ad un sd now past images iseed kept order numof above pile aside fewest deep keys worths) H → va_S (gA 15 ad) s.heap H locs → lv_has ls 3 [(0, .ref (ad 0)), (2, .int x2)] → fX9_undo_38 F past n38 un now x2 = some res → W p l e rX9_undo s m args below meth c H locs 0 0 Q (F0 m 38 ls []) := by
    intro n38
    induction n38 with
    | zero =>
      intro H locs un now x2 ls hP hS hl hf
      rw [fX9_undo_38] at hf
      cases hf
    | succ n38 ih38 =>
      skip
      intro H locs un now x2 ls hP hS hl hf
      rw [fX9_undo_38] at hf
      refine lv_iload_n hx hb dX9_undo_38 rfl (lv_at hl 1 rfl) ?_
      refine lv_sipush (v := (368 : Int32)) hx hb dX9_undo_39 (by decide) ?_
      refine lv_icmp_ge (tgt := 72) hx hb dX9_undo_42 (by decide) (fun hc4 => ?_) (fun hc4 => ?_)
      · rw [if_pos hc4] at hf
        refine lv_aload_n hx hb dX9_undo_72 rfl (lv_at hl 0 rfl) ?_
        obtain ⟨q5, hq5, hf⟩ := obE hf
        refine ct_cVi (rest := []) (tX9_many hD hq5) hx hb hml hown ht hX hP hS wX9_many kML_RX9_128 rfl rfl ⟨Nat.le_of_ble_eq_true rfl, Nat.le_of_ble_eq_true rfl⟩ (va_recv hX.1 hP rfl mw_obj) rfl hl.1 rfl (Nat.le_of_ble_eq_true rfl) dX9_undo_73 (fun H locs hP hS => ?_)
        have e0 := Option.some.inj hf
        subst e0
        exact hret _ _ _ _ hP hS dX9_undo_76
      · rw [if_neg hc4] at hf
        refine lv_aload_n hx hb dX9_undo_45 rfl (lv_at hl 0 rfl) ?_
        refine va_get (ci := 7) (v := .ref (ad 1)) hx hb ht i_X9 hown hX.1 hP 0 mw_obj rfl 0 (by decide) (ht _ kFL_RX9_7) (fun _ h9 => h9) rfl dX9_undo_46 ?_
        refine lv_iload_n hx hb dX9_undo_49 rfl (lv_at hl 1 rfl) ?_
        refine lv_aload_n hx hb dX9_undo_50 rfl (lv_at hl 0 rfl) ?_
        refine va_get (ci := 7) (v := .ref (ad 2)) hx hb ht i_X9 hown hX.1 hP 0 mw_obj rfl 1 (by decide) (ht _ kFL_RX9_13) (fun _ h9 => h9) rfl dX9_undo_51 ?_
        refine lv_sipush (v := (368 : Int32)) hx hb dX9_undo_54 (by decide) ?_
        refine lv_aload_n hx hb dX9_undo_57 rfl (lv_at hl 0 rfl) ?_
        refine va_get (ci := 7) (v := .int un) hx hb ht i_X9 hown hX.1 hP 0 mw_obj rfl 2 (by decide) (ht _ kFL_RX9_167) (fun _ h9 => h9) rfl dX9_undo_58 ?_
        refine lv_imul hx hb dX9_undo_61 ?_
        refine lv_iload_n hx hb dX9_undo_62 rfl (lv_at hl 1 rfl) ?_
        refine lv_iadd hx hb dX9_undo_63 ?_
        obtain ⟨hn6, hf⟩ := ngE _ hf
        refine va_iald hx hb hX.1 hP 2 0 mw_past rfl hn6 dX9_undo_64 ?_
        obtain ⟨hn7, hf⟩ := ngE _ hf
        refine va_iast hx hb hX.1 hP (gw_D hD _) hS 1 0 mw_now rfl hn7 dX9_undo_65 (fun H locs hP _ hS => ?_)
        rw [mw_set_now] at hP
        refine lv_iinc (v := x2 + (1 : Int32)) (lv' := [(2, .int (x2 + (1 : Int32))), (0, .ref (ad 0))]) hx hb dX9_undo_66 hl (k := 1) rfl rfl (by decide) rfl (fun ls hl => ?_)
        refine lv_goto (tgt := 38) hx hb dX9_undo_69 (by decide) ?_
        exact ih38 _ _ un (upd now x2.toNatClampNeg (past (((368 : Int32) * un) + x2).toNatClampNeg)) (x2 + (1 : Int32)) ls hP hS (lv_sub hl [1, 0] rfl) hf
  unfold fX9_undo at hf
  refine lv_iload_n hx hb dX9_undo_0 rfl (lv_at hl 1 rfl) ?_
  refine lv_i2l (v := x1.toInt64) hx hb dX9_undo_1 rfl ?_
  refine lv_lconst (v := (1 : Int64)) hx hb dX9_undo_2 (by decide) ?_
  refine lv_ldc2 hx hb hown (ht _ kKJ_RX9_228) dX9_undo_3 ?_
  obtain ⟨q1, hq1, hf⟩ := obE hf
  refine ct_cSi (rest := []) (tX9_in hD hq1) hx hb hml hown ht hX hP hS wX9_in kML_RX9_172 rfl rfl ⟨Nat.le_of_ble_eq_true rfl, Nat.le_of_ble_eq_true rfl⟩ rfl hl.1 rfl (Nat.le_of_ble_eq_true rfl) dX9_undo_6 (fun H locs hP hS => ?_)
  refine lv_if_ne (tgt := 15) hx hb dX9_undo_9 (by decide) (fun hc2 => ?_) (fun hc2 => ?_)
  · rw [if_neg hc2] at hf
    refine lv_iload_n hx hb dX9_undo_15 rfl (lv_at hl 1 rfl) ?_
    refine lv_aload_n hx hb dX9_undo_16 rfl (lv_at hl 0 rfl) ?_
    refine va_get (ci := 7) (v := .int un) hx hb ht i_X9 hown hX.1 hP 0 mw_obj rfl 2 (by decide) (ht _ kFL_RX9_167) (fun _ h9 => h9) rfl dX9_undo_17 ?_
    refine lv_icmp_le (tgt := 26) hx hb dX9_undo_20 (by decide) (fun hc3 => ?_) (fun hc3 => ?_)
    · rw [if_pos hc3] at hf
      refine lv_aload_n hx hb dX9_undo_26 rfl (lv_at hl 0 rfl) ?_
      refine lv_dup hx hb dX9_undo_27 rfl ?_
      refine va_get (ci := 7) (v := .int un) hx hb ht i_X9 hown hX.1 hP 0 mw_obj rfl 2 (by decide) (ht _ kFL_RX9_167) (fun _ h9 => h9) rfl dX9_undo_28 ?_
      refine lv_iload_n hx hb dX9_undo_31 rfl (lv_at hl 1 rfl) ?_
      refine lv_isub hx hb dX9_undo_32 ?_
      refine mr_putUn hD hx hb ht hown hX hP hS kFL_RX9_167 dX9_undo_33 (fun H locs hP hS => ?_)
      refine lv_iconst (v := (0 : Int32)) hx hb dX9_undo_36 (by decide) ?_
      refine lv_istore_n (lv' := [(2, .int ((0 : Int32))), (0, .ref (ad 0)), (1, .int x1)]) hx hb dX9_undo_37 rfl hl (by decide) rfl (fun ls hl => ?_)
      exact blk38 F _ _ (un - x1) now (0 : Int32) ls hP hS (lv_sub hl [1, 0] rfl) hf
    · rw [if_neg hc3] at hf
      refine lv_ldc hx hb hown (ht _ kKI_RX9_199) dX9_undo_23 ?_
      have e0 := Option.some.inj hf
      subst e0
      exact hret _ _ _ _ hP hS dX9_undo_25
  · rw [if_pos hc2] at hf
    refine lv_ldc hx hb hown (ht _ kKI_RX9_171) dX9_undo_12 ?_
    have e0 := Option.some.inj hf
    subst e0
    exact hret _ _ _ _ hP hS dX9_undo_14
def fX9_less (F : Nat) (now : Nat → Int32) (x1 : Int32) : Option (Int32) := (fX9_lessThan F now x1).bind fun q1 => (some q1)
abbrev rX9_less : Room := { frames := 2, cells := 0, slots := 0, locals := 45 }
theorem wX9_less : kV yX9_less cX9_less 2 (some .int) 1 := ⟨kCO_yX9_less, kIM_yX9_less, kSE_yX9_less, kIN_RX9, by decide +kernel, by decide +kernel, by decide +kernel⟩
set_option maxHeartbeats 4000000 in
set_option maxRecDepth 100000 in
theorem tX9_less {l : Launch} {D : va_G} {cI cZ : ClassId} {ad : Nat → Nat} (hD : gInj 15 ad) {F : Nat} {un sd : Int32} {now past images iseed kept order numof above pile aside fewest deep keys worths : Nat → Int32} {x1 : Int32} {res : Int32} (hf : fX9_less F now x1 = some res) : CTi l yX9_less cX9_less 2 .int rX9_less D (mTy cI cZ) (gA 15 ad) [.ref (ad 0), .int x1] (mw cI cZ ad un sd now past images iseed kept order numof above pile aside fewest deep keys worths) res (mw cI cZ ad un sd now past images iseed kept order numof above pile aside fewest deep keys worths) := by
  refine ct_int (by decide) (Nat.le_of_ble_eq_true rfl) ?_
  intro p e s m args below meth c Q ls hx hb hml hown ht hX hret hP hS hl
  have hl : lv_has ls 2 [(0, .ref (ad 0)), (1, .int x1)] := hl
  unfold fX9_less at hf
  refine lv_aload_n hx hb dX9_less_0 rfl (lv_at hl 0 rfl) ?_
  refine lv_iload_n hx hb dX9_less_1 rfl (lv_at hl 1 rfl) ?_
  obtain ⟨q1, hq1, hf⟩ := obE hf
  refine ct_cVi (rest := []) (tX9_lessThan hD hq1) hx hb hml hown ht hX hP hS wX9_lessThan kML_RX9_186 rfl rfl ⟨Nat.le_of_ble_eq_true rfl, Nat.le_of_ble_eq_true rfl⟩ (va_recv hX.1 hP rfl mw_obj) rfl hl.1 rfl (Nat.le_of_ble_eq_true rfl) dX9_less_2 (fun H locs hP hS => ?_)
  have e0 := Option.some.inj hf
  subst e0
  exact hret _ _ _ _ hP hS dX9_less_5
def fX9_beside (F : Nat) (now : Nat → Int32) (x1 : Int32) (x2 : Int32) : Option (Int32) := (fX9_in F x2.toInt64 (0 : Int64) (1 : Int64)).bind fun q1 => (if q1 = 0 then (some (-1000000002 : Int32)) else (if x2 = 0 then ((fX9_besideOf F now x1 (1 : Int32)).bind fun q5 => (some q5)) else ((fX9_besideOf F now x1 (0 : Int32)).bind fun q4 => (some q4))))
abbrev rX9_beside : Room := { frames := 2, cells := 0, slots := 0, locals := 49 }
theorem wX9_beside : kV yX9_beside cX9_beside 3 (some .int) 2 := ⟨kCO_yX9_beside, kIM_yX9_beside, kSE_yX9_beside, kIN_RX9, by decide +kernel, by decide +kernel, by decide +kernel⟩
set_option maxHeartbeats 4000000 in
set_option maxRecDepth 100000 in
theorem tX9_beside {l : Launch} {D : va_G} {cI cZ : ClassId} {ad : Nat → Nat} (hD : gInj 15 ad) {F : Nat} {un sd : Int32} {now past images iseed kept order numof above pile aside fewest deep keys worths : Nat → Int32} {x1 : Int32} {x2 : Int32} {res : Int32} (hf : fX9_beside F now x1 x2 = some res) : CTi l yX9_beside cX9_beside 3 .int rX9_beside D (mTy cI cZ) (gA 15 ad) [.ref (ad 0), .int x1, .int x2] (mw cI cZ ad un sd now past images iseed kept order numof above pile aside fewest deep keys worths) res (mw cI cZ ad un sd now past images iseed kept order numof above pile aside fewest deep keys worths) := by
  refine ct_int (by decide) (Nat.le_of_ble_eq_true rfl) ?_
  intro p e s m args below meth c Q ls hx hb hml hown ht hX hret hP hS hl
  have hl : lv_has ls 3 [(0, .ref (ad 0)), (1, .int x1), (2, .int x2)] := hl
  unfold fX9_beside at hf
  refine lv_iload_n hx hb dX9_beside_0 rfl (lv_at hl 2 rfl) ?_
  refine lv_i2l (v := x2.toInt64) hx hb dX9_beside_1 rfl ?_
  refine lv_lconst (v := (0 : Int64)) hx hb dX9_beside_2 (by decide) ?_
  refine lv_lconst (v := (1 : Int64)) hx hb dX9_beside_3 (by decide) ?_
  obtain ⟨q1, hq1, hf⟩ := obE hf
  refine ct_cSi (rest := []) (tX9_in hD hq1) hx hb hml hown ht hX hP hS wX9_in kML_RX9_172 rfl rfl ⟨Nat.le_of_ble_eq_true rfl, Nat.le_of_ble_eq_true rfl⟩ rfl hl.1 rfl (Nat.le_of_ble_eq_true rfl) dX9_beside_4 (fun H locs hP hS => ?_)
  refine lv_if_eq (tgt := 27) hx hb dX9_beside_7 (by decide) (fun hc2 => ?_) (fun hc2 => ?_)
  · rw [if_pos hc2] at hf
    refine lv_ldc hx hb hown (ht _ kKI_RX9_171) dX9_beside_27 ?_
    have e0 := Option.some.inj hf
    subst e0
    exact hret _ _ _ _ hP hS dX9_beside_29
  · rw [if_neg hc2] at hf
    refine lv_aload_n hx hb dX9_beside_10 rfl (lv_at hl 0 rfl) ?_
    refine lv_iload_n hx hb dX9_beside_11 rfl (lv_at hl 1 rfl) ?_
    refine lv_iload_n hx hb dX9_beside_12 rfl (lv_at hl 2 rfl) ?_
    refine lv_if_ne (tgt := 20) hx hb dX9_beside_13 (by decide) (fun hc3 => ?_) (fun hc3 => ?_)
    · rw [if_neg hc3] at hf
      refine lv_iconst (v := (0 : Int32)) hx hb dX9_beside_20 (by decide) ?_
      obtain ⟨q4, hq4, hf⟩ := obE hf
      refine ct_cVi (rest := []) (tX9_besideOf hD hq4) hx hb hml hown ht hX hP hS wX9_besideOf kML_RX9_140 rfl rfl ⟨Nat.le_of_ble_eq_true rfl, Nat.le_of_ble_eq_true rfl⟩ (va_recv hX.1 hP rfl mw_obj) rfl hl.1 rfl (Nat.le_of_ble_eq_true rfl) dX9_beside_21 (fun H locs hP hS => ?_)
      refine lv_goto (tgt := 29) hx hb dX9_beside_24 (by decide) ?_
      have e0 := Option.some.inj hf
      subst e0
      exact hret _ _ _ _ hP hS dX9_beside_29
    · rw [if_pos hc3] at hf
      refine lv_iconst (v := (1 : Int32)) hx hb dX9_beside_16 (by decide) ?_
      refine lv_goto (tgt := 21) hx hb dX9_beside_17 (by decide) ?_
      obtain ⟨q5, hq5, hf⟩ := obE hf
      refine ct_cVi (rest := []) (tX9_besideOf hD hq5) hx hb hml hown ht hX hP hS wX9_besideOf kML_RX9_140 rfl rfl ⟨Nat.le_of_ble_eq_true rfl, Nat.le_of_ble_eq_true rfl⟩ (va_recv hX.1 hP rfl mw_obj) rfl hl.1 rfl (Nat.le_of_ble_eq_true rfl) dX9_beside_21 (fun H locs hP hS => ?_)
      refine lv_goto (tgt := 29) hx hb dX9_beside_24 (by decide) ?_
      have e0 := Option.some.inj hf
      subst e0
      exact hret _ _ _ _ hP hS dX9_beside_29
def fX9_most_68 (F : Nat) (now : Nat → Int32) (k15 : Int32 → Int32 → Int32 → Int32 → Option (Int32)) (x2 : Int32) (x3 : Int32) (x5 : Int32) (y0 : Int32) : Option (Int32) := (fX9_besideOf F now x5 (0 : Int32)).bind fun q8 => (k15 x2 x3 y0 q8)
def fX9_most_53 (F : Nat) (now : Nat → Int32) (k15 : Int32 → Int32 → Int32 → Int32 → Option (Int32)) (x2 : Int32) (x4 : Int32) (x5 : Int32) (x6 : Int32) (y0 : Int32) : Option (Int32) := if x6 ≤ x4 then (fX9_most_68 F now k15 x2 y0 x5 x4) else (fX9_most_68 F now k15 x2 y0 x5 x6)
def fX9_most_15 (F : Nat) (now : Nat → Int32) : Nat → Int32 → Int32 → Int32 → Int32 → Option (Int32)
  | 0, _, _, _, _ => none
  | n + 1, x2, x3, x4, x5 => if x5 = (-1 : Int32) then (some x3) else (if x2 < x5 then (some x3) else ((fX9_find F now x5).bind fun q4 => ((fX9_of F now q4 (1 : Int32)).bind fun q5 => (if q5 ≤ x4 then (fX9_most_53 F now (fun x2 x3 x4 x5 => fX9_most_15 F now n x2 x3 x4 x5) x2 x4 x5 q5 x3) else (fX9_most_53 F now (fun x2 x3 x4 x5 => fX9_most_15 F now n x2 x3 x4 x5) x2 x4 x5 q5 x5)))))
def fX9_most (F : Nat) (now : Nat → Int32) (x1 : Int32) (x2 : Int32) : Option (Int32) := (fX9_besideOf F now (x1 - (1 : Int32)) (0 : Int32)).bind fun q1 => (fX9_most_15 F now F x2 (-1 : Int32) (-1 : Int32) q1)
abbrev rX9_most : Room := { frames := 3, cells := 0, slots := 0, locals := 66 }
theorem wX9_most : kV yX9_most cX9_most 7 (some .int) 2 := ⟨kCO_yX9_most, kIM_yX9_most, kSE_yX9_most, kIN_RX9, by decide +kernel, by decide +kernel, by decide +kernel⟩
set_option maxHeartbeats 4000000 in
set_option maxRecDepth 100000 in
theorem tX9_most {l : Launch} {D : va_G} {cI cZ : ClassId} {ad : Nat → Nat} (hD : gInj 15 ad) {F : Nat} {un sd : Int32} {now past images iseed kept order numof above pile aside fewest deep keys worths : Nat → Int32} {x1 : Int32} {x2 : Int32} {res : Int32} (hf : fX9_most F now x1 x2 = some res) : CTi l yX9_most cX9_most 7 .int rX9_most D (mTy cI cZ) (gA 15 ad) [.ref (ad 0), .int x1, .int x2] (mw cI cZ ad un sd now past images iseed kept order numof above pile aside fewest deep keys worths) res (mw cI cZ ad un sd now past images iseed kept order numof above pile aside fewest deep keys worths) := by
  refine ct_int (by decide) (Nat.le_of_ble_eq_true rfl) ?_
  intro p e s m args below meth c Q ls hx hb hml hown ht hX hret hP hS hl
  have hl : lv_has ls 7 [(0, .ref (ad 0)), (1, .int x1), (2, .int x2)] := hl
  have blk15 : ∀ (n15 : Nat) (H : Heap) (locs : List Loc) (x2 : Int32) (x3 : Int32) (x4 : Int32) (x5 : Int32) (ls : Array Slot), va_P D vwCl (mw cI cZ ad un sd now past images iseed kept order numof above pile aside fewest deep keys worths) H → va_S (gA 15 ad) s.heap H locs → lv_has ls 7 [(0, .ref (ad 0)), (2, .int x2), (3, .int x3), (4, .int x4), (5, .int x5)] → fX9_most_15 F now n15 x2 x3 x4 x5 = some res → W p l e rX9_most s m args below meth c H locs 0 0 Q (F0 m 15 ls []) := by
    intro n15
    induction n15 with
    | zero =>
      intro H locs x2 x3 x4 x5 ls hP hS hl hf
      rw [fX9_most_15] at hf
      cases hf
    | succ n15 ih15 =>
      skip
      have blk68 : ∀ (H : Heap) (locs : List Loc) (x2 : Int32) (x3 : Int32) (x5 : Int32) (y0 : Int32) (ls : Array Slot), va_P D vwCl (mw cI cZ ad un sd now past images iseed kept order numof above pile aside fewest deep keys worths) H → va_S (gA 15 ad) s.heap H locs → lv_has ls 7 [(0, .ref (ad 0)), (2, .int x2), (3, .int x3), (5, .int x5)] → fX9_most_68 F now (fun x2 x3 x4 x5 => fX9_most_15 F now n15 x2 x3 x4 x5) x2 x3 x5 y0 = some res → W p l e rX9_most s m args below meth c H locs 0 0 Q (F0 m 68 ls [.int y0]) := by
        intro H locs x2 x3 x5 y0 ls hP hS hl hf
        unfold fX9_most_68 at hf
        refine lv_istore (lv' := [(4, .int y0), (0, .ref (ad 0)), (2, .int x2), (3, .int x3), (5, .int x5)]) hx hb dX9_most_68 hl (by decide) rfl (fun ls hl => ?_)
        refine lv_aload_n hx hb dX9_most_70 rfl (lv_at hl 1 rfl) ?_
        refine lv_iload hx hb dX9_most_71 (lv_at hl 4 rfl) ?_
        refine lv_iconst (v := (0 : Int32)) hx hb dX9_most_73 (by decide) ?_
        obtain ⟨q8, hq8, hf⟩ := obE hf
        refine ct_cVi (rest := []) (tX9_besideOf hD hq8) hx hb hml hown ht hX hP hS wX9_besideOf kML_RX9_140 rfl rfl ⟨Nat.le_of_ble_eq_true rfl, Nat.le_of_ble_eq_true rfl⟩ (va_recv hX.1 hP rfl mw_obj) rfl hl.1 rfl (Nat.le_of_ble_eq_true rfl) dX9_most_74 (fun H locs hP hS => ?_)
        refine lv_istore (lv' := [(5, .int q8), (4, .int y0), (0, .ref (ad 0)), (2, .int x2), (3, .int x3)]) hx hb dX9_most_77 hl (by decide) rfl (fun ls hl => ?_)
        refine lv_goto (tgt := 15) hx hb dX9_most_79 (by decide) ?_
        exact ih15 _ _ x2 x3 y0 q8 ls hP hS (lv_sub hl [2, 3, 4, 1, 0] rfl) hf
      have blk53 : ∀ (H : Heap) (locs : List Loc) (x2 : Int32) (x4 : Int32) (x5 : Int32) (x6 : Int32) (y0 : Int32) (ls : Array Slot), va_P D vwCl (mw cI cZ ad un sd now past images iseed kept order numof above pile aside fewest deep keys worths) H → va_S (gA 15 ad) s.heap H locs → lv_has ls 7 [(0, .ref (ad 0)), (2, .int x2), (4, .int x4), (5, .int x5), (6, .int x6)] → fX9_most_53 F now (fun x2 x3 x4 x5 => fX9_most_15 F now n15 x2 x3 x4 x5) x2 x4 x5 x6 y0 = some res → W p l e rX9_most s m args below meth c H locs 0 0 Q (F0 m 53 ls [.int y0]) := by
        intro H locs x2 x4 x5 x6 y0 ls hP hS hl hf
        unfold fX9_most_53 at hf
        refine lv_istore_n (lv' := [(3, .int y0), (0, .ref (ad 0)), (2, .int x2), (4, .int x4), (5, .int x5), (6, .int x6)]) hx hb dX9_most_53 rfl hl (by decide) rfl (fun ls hl => ?_)
        refine lv_iload hx hb dX9_most_54 (lv_at hl 5 rfl) ?_
        refine lv_iload hx hb dX9_most_56 (lv_at hl 3 rfl) ?_
        refine lv_icmp_le (tgt := 66) hx hb dX9_most_58 (by decide) (fun hc7 => ?_) (fun hc7 => ?_)
        · rw [if_pos hc7] at hf
          refine lv_iload hx hb dX9_most_66 (lv_at hl 3 rfl) ?_
          exact blk68 _ _ x2 y0 x5 x4 ls hP hS (lv_sub hl [1, 2, 0, 4] rfl) hf
        · rw [if_neg hc7] at hf
          refine lv_iload hx hb dX9_most_61 (lv_at hl 5 rfl) ?_
          refine lv_goto (tgt := 68) hx hb dX9_most_63 (by decide) ?_
          exact blk68 _ _ x2 y0 x5 x6 ls hP hS (lv_sub hl [1, 2, 0, 4] rfl) hf
      intro H locs x2 x3 x4 x5 ls hP hS hl hf
      rw [fX9_most_15] at hf
      refine lv_iload hx hb dX9_most_15 (lv_at hl 4 rfl) ?_
      refine lv_iconst (v := (-1 : Int32)) hx hb dX9_most_17 (by decide) ?_
      refine lv_icmp_eq (tgt := 82) hx hb dX9_most_18 (by decide) (fun hc2 => ?_) (fun hc2 => ?_)
      · rw [if_pos hc2] at hf
        refine lv_iload_n hx hb dX9_most_82 rfl (lv_at hl 2 rfl) ?_
        have e0 := Option.some.inj hf
        subst e0
        exact hret _ _ _ _ hP hS dX9_most_83
      · rw [if_neg hc2] at hf
        refine lv_iload hx hb dX9_most_21 (lv_at hl 4 rfl) ?_
        refine lv_iload_n hx hb dX9_most_23 rfl (lv_at hl 1 rfl) ?_
        refine lv_icmp_gt (tgt := 82) hx hb dX9_most_24 (by decide) (fun hc3 => ?_) (fun hc3 => ?_)
        · rw [if_pos hc3] at hf
          refine lv_iload_n hx hb dX9_most_82 rfl (lv_at hl 2 rfl) ?_
          have e0 := Option.some.inj hf
          subst e0
          exact hret _ _ _ _ hP hS dX9_most_83
        · rw [if_neg hc3] at hf
          refine lv_aload_n hx hb dX9_most_27 rfl (lv_at hl 0 rfl) ?_
          refine lv_aload_n hx hb dX9_most_28 rfl (lv_at hl 0 rfl) ?_
          refine lv_iload hx hb dX9_most_29 (lv_at hl 4 rfl) ?_
          obtain ⟨q4, hq4, hf⟩ := obE hf
          refine ct_cVi (rest := [.ref (ad 0)]) (tX9_find hD hq4) hx hb hml hown ht hX hP hS wX9_find kML_RX9_134 rfl rfl ⟨Nat.le_of_ble_eq_true rfl, Nat.le_of_ble_eq_true rfl⟩ (va_recv hX.1 hP rfl mw_obj) rfl hl.1 rfl (Nat.le_of_ble_eq_true rfl) dX9_most_31 (fun H locs hP hS => ?_)
          refine lv_iconst (v := (1 : Int32)) hx hb dX9_most_34 (by decide) ?_
          obtain ⟨q5, hq5, hf⟩ := obE hf
          refine ct_cVi (rest := []) (tX9_of hD hq5) hx hb hml hown ht hX hP hS wX9_of kML_RX9_63 rfl rfl ⟨Nat.le_of_ble_eq_true rfl, Nat.le_of_ble_eq_true rfl⟩ (va_recv hX.1 hP rfl mw_obj) rfl hl.1 rfl (Nat.le_of_ble_eq_true rfl) dX9_most_35 (fun H locs hP hS => ?_)
          refine lv_istore (lv' := [(6, .int q5), (0, .ref (ad 0)), (2, .int x2), (3, .int x3), (4, .int x4), (5, .int x5)]) hx hb dX9_most_38 hl (by decide) rfl (fun ls hl => ?_)
          refine lv_iload hx hb dX9_most_40 (lv_at hl 0 rfl) ?_
          refine lv_iload hx hb dX9_most_42 (lv_at hl 4 rfl) ?_
          refine lv_icmp_le (tgt := 52) hx hb dX9_most_44 (by decide) (fun hc6 => ?_) (fun hc6 => ?_)
          · rw [if_pos hc6] at hf
            refine lv_iload_n hx hb dX9_most_52 rfl (lv_at hl 3 rfl) ?_
            exact blk53 _ _ x2 x4 x5 q5 x3 ls hP hS (lv_sub hl [1, 2, 4, 5, 0] rfl) hf
          · rw [if_neg hc6] at hf
            refine lv_iload hx hb dX9_most_47 (lv_at hl 5 rfl) ?_
            refine lv_goto (tgt := 53) hx hb dX9_most_49 (by decide) ?_
            exact blk53 _ _ x2 x4 x5 q5 x5 ls hP hS (lv_sub hl [1, 2, 4, 5, 0] rfl) hf
  unfold fX9_most at hf
  refine lv_iconst (v := (-1 : Int32)) hx hb dX9_most_0 (by decide) ?_
  refine lv_istore_n (lv' := [(3, .int ((-1 : Int32))), (0, .ref (ad 0)), (1, .int x1), (2, .int x2)]) hx hb dX9_most_1 rfl hl (by decide) rfl (fun ls hl => ?_)
  refine lv_iconst (v := (-1 : Int32)) hx hb dX9_most_2 (by decide) ?_
  refine lv_istore (lv' := [(4, .int ((-1 : Int32))), (3, .int ((-1 : Int32))), (0, .ref (ad 0)), (1, .int x1), (2, .int x2)]) hx hb dX9_most_3 hl (by decide) rfl (fun ls hl => ?_)
  refine lv_aload_n hx hb dX9_most_5 rfl (lv_at hl 2 rfl) ?_
  refine lv_iload_n hx hb dX9_most_6 rfl (lv_at hl 3 rfl) ?_
  refine lv_iconst (v := (1 : Int32)) hx hb dX9_most_7 (by decide) ?_
  refine lv_isub hx hb dX9_most_8 ?_
  refine lv_iconst (v := (0 : Int32)) hx hb dX9_most_9 (by decide) ?_
  obtain ⟨q1, hq1, hf⟩ := obE hf
  refine ct_cVi (rest := []) (tX9_besideOf hD hq1) hx hb hml hown ht hX hP hS wX9_besideOf kML_RX9_140 rfl rfl ⟨Nat.le_of_ble_eq_true rfl, Nat.le_of_ble_eq_true rfl⟩ (va_recv hX.1 hP rfl mw_obj) rfl hl.1 rfl (Nat.le_of_ble_eq_true rfl) dX9_most_10 (fun H locs hP hS => ?_)
  refine lv_istore (lv' := [(5, .int q1), (4, .int ((-1 : Int32))), (3, .int ((-1 : Int32))), (0, .ref (ad 0)), (1, .int x1), (2, .int x2)]) hx hb dX9_most_13 hl (by decide) rfl (fun ls hl => ?_)
  exact blk15 F _ _ x2 (-1 : Int32) (-1 : Int32) q1 ls hP hS (lv_sub hl [3, 5, 2, 1, 0] rfl) hf
def fX9_sumBetween_51 (F : Nat) (now : Nat → Int32) (k6 : Int32 → Int32 → Int32 → Int32 → Int32 → Option (Int32)) (x1 : Int32) (x2 : Int32) (x3 : Int32) (x4 : Int32) (x5 : Int32) (y0 : Int32) : Option (Int32) := if y0 = 0 then (k6 x1 x2 x3 (x4 + (0 : Int32)) (x5 + (1 : Int32))) else (if x3 = 0 then (k6 x1 x2 x3 (x4 + (1 : Int32)) (x5 + (1 : Int32))) else ((fX9_of F now x5 (1 : Int32)).bind fun q10 => (k6 x1 x2 x3 (x4 + q10) (x5 + (1 : Int32)))))
def fX9_sumBetween_50 (F : Nat) (now : Nat → Int32) (k6 : Int32 → Int32 → Int32 → Int32 → Int32 → Option (Int32)) (x1 : Int32) (x2 : Int32) (x3 : Int32) (x4 : Int32) (x5 : Int32) : Option (Int32) := fX9_sumBetween_51 F now k6 x1 x2 x3 x4 x5 (0 : Int32)
def fX9_sumBetween_6 (F : Nat) (now : Nat → Int32) : Nat → Int32 → Int32 → Int32 → Int32 → Int32 → Option (Int32)
  | 0, _, _, _, _, _ => none
  | n + 1, x1, x2, x3, x4, x5 => if (60 : Int32) ≤ x5 then (some x4) else ((fX9_of F now x5 (0 : Int32)).bind fun q2 => (if q2 = (-1 : Int32) then (fX9_sumBetween_50 F now (fun x1 x2 x3 x4 x5 => fX9_sumBetween_6 F now n x1 x2 x3 x4 x5) x1 x2 x3 x4 x5) else ((fX9_of F now x5 (0 : Int32)).bind fun q4 => (if q4 < x1 then (fX9_sumBetween_50 F now (fun x1 x2 x3 x4 x5 => fX9_sumBetween_6 F now n x1 x2 x3 x4 x5) x1 x2 x3 x4 x5) else ((fX9_of F now x5 (0 : Int32)).bind fun q6 => (if x2 < q6 then (fX9_sumBetween_50 F now (fun x1 x2 x3 x4 x5 => fX9_sumBetween_6 F now n x1 x2 x3 x4 x5) x1 x2 x3 x4 x5) else (fX9_sumBetween_51 F now (fun x1 x2 x3 x4 x5 => fX9_sumBetween_6 F now n x1 x2 x3 x4 x5) x1 x2 x3 x4 x5 (1 : Int32))))))))
def fX9_sumBetween (F : Nat) (now : Nat → Int32) (x1 : Int32) (x2 : Int32) (x3 : Int32) : Option (Int32) := fX9_sumBetween_6 F now F x1 x2 x3 (0 : Int32) (0 : Int32)
abbrev rX9_sumBetween : Room := { frames := 1, cells := 0, slots := 0, locals := 22 }
theorem wX9_sumBetween : kV yX9_sumBetween cX9_sumBetween 7 (some .int) 3 := ⟨kCO_yX9_sumBetween, kIM_yX9_sumBetween, kSE_yX9_sumBetween, kIN_RX9, by decide +kernel, by decide +kernel, by decide +kernel⟩
set_option maxHeartbeats 4000000 in
set_option maxRecDepth 100000 in
theorem tX9_sumBetween {l : Launch} {D : va_G} {cI cZ : ClassId} {ad : Nat → Nat} (hD : gInj 15 ad) {F : Nat} {un sd : Int32} {now past images iseed kept order numof above pile aside fewest deep keys worths : Nat → Int32} {x1 : Int32} {x2 : Int32} {x3 : Int32} {res : Int32} (hf : fX9_sumBetween F now x1 x2 x3 = some res) : CTi l yX9_sumBetween cX9_sumBetween 7 .int rX9_sumBetween D (mTy cI cZ) (gA 15 ad) [.ref (ad 0), .int x1, .int x2, .int x3] (mw cI cZ ad un sd now past images iseed kept order numof above pile aside fewest deep keys worths) res (mw cI cZ ad un sd now past images iseed kept order numof above pile aside fewest deep keys worths) := by
  refine ct_int (by decide) (Nat.le_of_ble_eq_true rfl) ?_
  intro p e s m args below meth c Q ls hx hb hml hown ht hX hret hP hS hl
  have hl : lv_has ls 7 [(0, .ref (ad 0)), (1, .int x1), (2, .int x2), (3, .int x3)] := hl
  have blk6 : ∀ (n6 : Nat) (H : Heap) (locs : List Loc) (x1 : Int32) (x2 : Int32) (x3 : Int32) (x4 : Int32) (x5 : Int32) (ls : Array Slot), va_P D vwCl (mw cI cZ ad un sd now past images iseed kept order numof above pile aside fewest deep keys worths) H → va_S (gA 15 ad) s.heap H locs → lv_has ls 7 [(0, .ref (ad 0)), (1, .int x1), (2, .int x2), (3, .int x3), (4, .int x4), (5, .int x5)] → fX9_sumBetween_6 F now n6 x1 x2 x3 x4 x5 = some res → W p l e rX9_sumBetween s m args below meth c H locs 0 0 Q (F0 m 6 ls []) := by
    intro n6
    induction n6 with
    | zero =>
      intro H locs x1 x2 x3 x4 x5 ls hP hS hl hf
      rw [fX9_sumBetween_6] at hf
      cases hf
    | succ n6 ih6 =>
      skip
      have blk51 : ∀ (H : Heap) (locs : List Loc) (x1 : Int32) (x2 : Int32) (x3 : Int32) (x4 : Int32) (x5 : Int32) (y0 : Int32) (ls : Array Slot), va_P D vwCl (mw cI cZ ad un sd now past images iseed kept order numof above pile aside fewest deep keys worths) H → va_S (gA 15 ad) s.heap H locs → lv_has ls 7 [(0, .ref (ad 0)), (1, .int x1), (2, .int x2), (3, .int x3), (4, .int x4), (5, .int x5)] → fX9_sumBetween_51 F now (fun x1 x2 x3 x4 x5 => fX9_sumBetween_6 F now n6 x1 x2 x3 x4 x5) x1 x2 x3 x4 x5 y0 = some res → W p l e rX9_sumBetween s m args below meth c H locs 0 0 Q (F0 m 51 ls [.int y0]) := by
        intro H locs x1 x2 x3 x4 x5 y0 ls hP hS hl hf
        unfold fX9_sumBetween_51 at hf
        refine lv_istore (lv' := [(6, .int y0), (0, .ref (ad 0)), (1, .int x1), (2, .int x2), (3, .int x3), (4, .int x4), (5, .int x5)]) hx hb dX9_sumBetween_51 hl (by decide) rfl (fun ls hl => ?_)
        refine lv_iload hx hb dX9_sumBetween_53 (lv_at hl 5 rfl) ?_
        refine lv_iload hx hb dX9_sumBetween_55 (lv_at hl 0 rfl) ?_
        refine lv_if_eq (tgt := 78) hx hb dX9_sumBetween_57 (by decide) (fun hc8 => ?_) (fun hc8 => ?_)
        · rw [if_pos hc8] at hf
          refine lv_iconst (v := (0 : Int32)) hx hb dX9_sumBetween_78 (by decide) ?_
          refine lv_iadd hx hb dX9_sumBetween_79 ?_
          refine lv_istore (lv' := [(4, .int (x4 + (0 : Int32))), (6, .int y0), (0, .ref (ad 0)), (1, .int x1), (2, .int x2), (3, .int x3), (5, .int x5)]) hx hb dX9_sumBetween_80 hl (by decide) rfl (fun ls hl => ?_)
          refine lv_iinc (v := x5 + (1 : Int32)) (lv' := [(5, .int (x5 + (1 : Int32))), (4, .int (x4 + (0 : Int32))), (6, .int y0), (0, .ref (ad 0)), (1, .int x1), (2, .int x2), (3, .int x3)]) hx hb dX9_sumBetween_82 hl (k := 6) rfl rfl (by decide) rfl (fun ls hl => ?_)
          refine lv_goto (tgt := 6) hx hb dX9_sumBetween_85 (by decide) ?_
          exact ih6 _ _ x1 x2 x3 (x4 + (0 : Int32)) (x5 + (1 : Int32)) ls hP hS (lv_sub hl [3, 4, 5, 6, 1, 0] rfl) hf
        · rw [if_neg hc8] at hf
          refine lv_iload_n hx hb dX9_sumBetween_60 rfl (lv_at hl 4 rfl) ?_
          refine lv_if_eq (tgt := 74) hx hb dX9_sumBetween_61 (by decide) (fun hc9 => ?_) (fun hc9 => ?_)
          · rw [if_pos hc9] at hf
            refine lv_iconst (v := (1 : Int32)) hx hb dX9_sumBetween_74 (by decide) ?_
            refine lv_goto (tgt := 79) hx hb dX9_sumBetween_75 (by decide) ?_
            refine lv_iadd hx hb dX9_sumBetween_79 ?_
            refine lv_istore (lv' := [(4, .int (x4 + (1 : Int32))), (6, .int y0), (0, .ref (ad 0)), (1, .int x1), (2, .int x2), (3, .int x3), (5, .int x5)]) hx hb dX9_sumBetween_80 hl (by decide) rfl (fun ls hl => ?_)
            refine lv_iinc (v := x5 + (1 : Int32)) (lv' := [(5, .int (x5 + (1 : Int32))), (4, .int (x4 + (1 : Int32))), (6, .int y0), (0, .ref (ad 0)), (1, .int x1), (2, .int x2), (3, .int x3)]) hx hb dX9_sumBetween_82 hl (k := 6) rfl rfl (by decide) rfl (fun ls hl => ?_)
            refine lv_goto (tgt := 6) hx hb dX9_sumBetween_85 (by decide) ?_
            exact ih6 _ _ x1 x2 x3 (x4 + (1 : Int32)) (x5 + (1 : Int32)) ls hP hS (lv_sub hl [3, 4, 5, 6, 1, 0] rfl) hf
          · rw [if_neg hc9] at hf
            refine lv_aload_n hx hb dX9_sumBetween_64 rfl (lv_at hl 1 rfl) ?_
            refine lv_iload hx hb dX9_sumBetween_65 (lv_at hl 6 rfl) ?_
            refine lv_iconst (v := (1 : Int32)) hx hb dX9_sumBetween_67 (by decide) ?_
            obtain ⟨q10, hq10, hf⟩ := obE hf
            refine ct_cVi (rest := [.int x4]) (tX9_of hD hq10) hx hb hml hown ht hX hP hS wX9_of kML_RX9_63 rfl rfl ⟨Nat.le_of_ble_eq_true rfl, Nat.le_of_ble_eq_true rfl⟩ (va_recv hX.1 hP rfl mw_obj) rfl hl.1 rfl (Nat.le_of_ble_eq_true rfl) dX9_sumBetween_68 (fun H locs hP hS => ?_)
            refine lv_goto (tgt := 79) hx hb dX9_sumBetween_71 (by decide) ?_
            refine lv_iadd hx hb dX9_sumBetween_79 ?_
            refine lv_istore (lv' := [(4, .int (x4 + q10)), (6, .int y0), (0, .ref (ad 0)), (1, .int x1), (2, .int x2), (3, .int x3), (5, .int x5)]) hx hb dX9_sumBetween_80 hl (by decide) rfl (fun ls hl => ?_)
            refine lv_iinc (v := x5 + (1 : Int32)) (lv' := [(5, .int (x5 + (1 : Int32))), (4, .int (x4 + q10)), (6, .int y0), (0, .ref (ad 0)), (1, .int x1), (2, .int x2), (3, .int x3)]) hx hb dX9_sumBetween_82 hl (k := 6) rfl rfl (by decide) rfl (fun ls hl => ?_)
            refine lv_goto (tgt := 6) hx hb dX9_sumBetween_85 (by decide) ?_
            exact ih6 _ _ x1 x2 x3 (x4 + q10) (x5 + (1 : Int32)) ls hP hS (lv_sub hl [3, 4, 5, 6, 1, 0] rfl) hf
      have blk50 : ∀ (H : Heap) (locs : List Loc) (x1 : Int32) (x2 : Int32) (x3 : Int32) (x4 : Int32) (x5 : Int32) (ls : Array Slot), va_P D vwCl (mw cI cZ ad un sd now past images iseed kept order numof above pile aside fewest deep keys worths) H → va_S (gA 15 ad) s.heap H locs → lv_has ls 7 [(0, .ref (ad 0)), (1, .int x1), (2, .int x2), (3, .int x3), (4, .int x4), (5, .int x5)] → fX9_sumBetween_50 F now (fun x1 x2 x3 x4 x5 => fX9_sumBetween_6 F now n6 x1 x2 x3 x4 x5) x1 x2 x3 x4 x5 = some res → W p l e rX9_sumBetween s m args below meth c H locs 0 0 Q (F0 m 50 ls []) := by
        intro H locs x1 x2 x3 x4 x5 ls hP hS hl hf
        unfold fX9_sumBetween_50 at hf
        refine lv_iconst (v := (0 : Int32)) hx hb dX9_sumBetween_50 (by decide) ?_
        exact blk51 _ _ x1 x2 x3 x4 x5 (0 : Int32) ls hP hS (lv_sub hl [0, 1, 2, 3, 4, 5] rfl) hf
      intro H locs x1 x2 x3 x4 x5 ls hP hS hl hf
      rw [fX9_sumBetween_6] at hf
      refine lv_iload hx hb dX9_sumBetween_6 (lv_at hl 5 rfl) ?_
      refine lv_bipush (v := (60 : Int32)) hx hb dX9_sumBetween_8 (by decide) ?_
      refine lv_icmp_ge (tgt := 88) hx hb dX9_sumBetween_10 (by decide) (fun hc1 => ?_) (fun hc1 => ?_)
      · rw [if_pos hc1] at hf
        refine lv_iload hx hb dX9_sumBetween_88 (lv_at hl 4 rfl) ?_
        have e0 := Option.some.inj hf
        subst e0
        exact hret _ _ _ _ hP hS dX9_sumBetween_90
      · rw [if_neg hc1] at hf
        refine lv_aload_n hx hb dX9_sumBetween_13 rfl (lv_at hl 0 rfl) ?_
        refine lv_iload hx hb dX9_sumBetween_14 (lv_at hl 5 rfl) ?_
        refine lv_iconst (v := (0 : Int32)) hx hb dX9_sumBetween_16 (by decide) ?_
        obtain ⟨q2, hq2, hf⟩ := obE hf
        refine ct_cVi (rest := []) (tX9_of hD hq2) hx hb hml hown ht hX hP hS wX9_of kML_RX9_63 rfl rfl ⟨Nat.le_of_ble_eq_true rfl, Nat.le_of_ble_eq_true rfl⟩ (va_recv hX.1 hP rfl mw_obj) rfl hl.1 rfl (Nat.le_of_ble_eq_true rfl) dX9_sumBetween_17 (fun H locs hP hS => ?_)
        refine lv_iconst (v := (-1 : Int32)) hx hb dX9_sumBetween_20 (by decide) ?_
        refine lv_icmp_eq (tgt := 50) hx hb dX9_sumBetween_21 (by decide) (fun hc3 => ?_) (fun hc3 => ?_)
        · rw [if_pos hc3] at hf
          exact blk50 _ _ x1 x2 x3 x4 x5 ls hP hS (lv_sub hl [0, 1, 2, 3, 4, 5] rfl) hf
        · rw [if_neg hc3] at hf
          refine lv_aload_n hx hb dX9_sumBetween_24 rfl (lv_at hl 0 rfl) ?_
          refine lv_iload hx hb dX9_sumBetween_25 (lv_at hl 5 rfl) ?_
          refine lv_iconst (v := (0 : Int32)) hx hb dX9_sumBetween_27 (by decide) ?_
          obtain ⟨q4, hq4, hf⟩ := obE hf
          refine ct_cVi (rest := []) (tX9_of hD hq4) hx hb hml hown ht hX hP hS wX9_of kML_RX9_63 rfl rfl ⟨Nat.le_of_ble_eq_true rfl, Nat.le_of_ble_eq_true rfl⟩ (va_recv hX.1 hP rfl mw_obj) rfl hl.1 rfl (Nat.le_of_ble_eq_true rfl) dX9_sumBetween_28 (fun H locs hP hS => ?_)
          refine lv_iload_n hx hb dX9_sumBetween_31 rfl (lv_at hl 1 rfl) ?_
          refine lv_icmp_lt (tgt := 50) hx hb dX9_sumBetween_32 (by decide) (fun hc5 => ?_) (fun hc5 => ?_)
          · rw [if_pos hc5] at hf
            exact blk50 _ _ x1 x2 x3 x4 x5 ls hP hS (lv_sub hl [0, 1, 2, 3, 4, 5] rfl) hf
          · rw [if_neg hc5] at hf
            refine lv_aload_n hx hb dX9_sumBetween_35 rfl (lv_at hl 0 rfl) ?_
            refine lv_iload hx hb dX9_sumBetween_36 (lv_at hl 5 rfl) ?_
            refine lv_iconst (v := (0 : Int32)) hx hb dX9_sumBetween_38 (by decide) ?_
            obtain ⟨q6, hq6, hf⟩ := obE hf
            refine ct_cVi (rest := []) (tX9_of hD hq6) hx hb hml hown ht hX hP hS wX9_of kML_RX9_63 rfl rfl ⟨Nat.le_of_ble_eq_true rfl, Nat.le_of_ble_eq_true rfl⟩ (va_recv hX.1 hP rfl mw_obj) rfl hl.1 rfl (Nat.le_of_ble_eq_true rfl) dX9_sumBetween_39 (fun H locs hP hS => ?_)
            refine lv_iload_n hx hb dX9_sumBetween_42 rfl (lv_at hl 2 rfl) ?_
            refine lv_icmp_gt (tgt := 50) hx hb dX9_sumBetween_43 (by decide) (fun hc7 => ?_) (fun hc7 => ?_)
            · rw [if_pos hc7] at hf
              exact blk50 _ _ x1 x2 x3 x4 x5 ls hP hS (lv_sub hl [0, 1, 2, 3, 4, 5] rfl) hf
            · rw [if_neg hc7] at hf
              refine lv_iconst (v := (1 : Int32)) hx hb dX9_sumBetween_46 (by decide) ?_
              refine lv_goto (tgt := 51) hx hb dX9_sumBetween_47 (by decide) ?_
              exact blk51 _ _ x1 x2 x3 x4 x5 (1 : Int32) ls hP hS (lv_sub hl [0, 1, 2, 3, 4, 5] rfl) hf
  unfold fX9_sumBetween at hf
  refine lv_iconst (v := (0 : Int32)) hx hb dX9_sumBetween_0 (by decide) ?_
  refine lv_istore (lv' := [(4, .int ((0 : Int32))), (0, .ref (ad 0)), (1, .int x1), (2, .int x2), (3, .int x3)]) hx hb dX9_sumBetween_1 hl (by decide) rfl (fun ls hl => ?_)
  refine lv_iconst (v := (0 : Int32)) hx hb dX9_sumBetween_3 (by decide) ?_
  refine lv_istore (lv' := [(5, .int ((0 : Int32))), (4, .int ((0 : Int32))), (0, .ref (ad 0)), (1, .int x1), (2, .int x2), (3, .int x3)]) hx hb dX9_sumBetween_4 hl (by decide) rfl (fun ls hl => ?_)
  exact blk6 F _ _ x1 x2 x3 (0 : Int32) (0 : Int32) ls hP hS (lv_sub hl [2, 3, 4, 5, 1, 0] rfl) hf
def fX9_between (F : Nat) (now : Nat → Int32) (x1 : Int32) (x2 : Int32) (x3 : Int32) : Option (Int32) := (fX9_in F x3.toInt64 (0 : Int64) (2 : Int64)).bind fun q1 => (if q1 = 0 then (some (-1000000002 : Int32)) else (if (2 : Int32) ≤ x3 then (if 0 ≤ x1 then ((fX9_most F now x1 x2).bind fun q5 => (some q5)) else ((fX9_most F now (0 : Int32) x2).bind fun q6 => (some q6))) else (if x3 = (1 : Int32) then ((fX9_sumBetween F now x1 x2 (1 : Int32)).bind fun q9 => (some q9)) else ((fX9_sumBetween F now x1 x2 (0 : Int32)).bind fun q8 => (some q8)))))
abbrev rX9_between : Room := { frames := 4, cells := 0, slots := 0, locals := 92 }
theorem wX9_between : kV yX9_between cX9_between 4 (some .int) 3 := ⟨kCO_yX9_between, kIM_yX9_between, kSE_yX9_between, kIN_RX9, by decide +kernel, by decide +kernel, by decide +kernel⟩
set_option maxHeartbeats 4000000 in
set_option maxRecDepth 100000 in
theorem tX9_between {l : Launch} {D : va_G} {cI cZ : ClassId} {ad : Nat → Nat} (hD : gInj 15 ad) {F : Nat} {un sd : Int32} {now past images iseed kept order numof above pile aside fewest deep keys worths : Nat → Int32} {x1 : Int32} {x2 : Int32} {x3 : Int32} {res : Int32} (hf : fX9_between F now x1 x2 x3 = some res) : CTi l yX9_between cX9_between 4 .int rX9_between D (mTy cI cZ) (gA 15 ad) [.ref (ad 0), .int x1, .int x2, .int x3] (mw cI cZ ad un sd now past images iseed kept order numof above pile aside fewest deep keys worths) res (mw cI cZ ad un sd now past images iseed kept order numof above pile aside fewest deep keys worths) := by
  refine ct_int (by decide) (Nat.le_of_ble_eq_true rfl) ?_
  intro p e s m args below meth c Q ls hx hb hml hown ht hX hret hP hS hl
  have hl : lv_has ls 4 [(0, .ref (ad 0)), (1, .int x1), (2, .int x2), (3, .int x3)] := hl
  unfold fX9_between at hf
  refine lv_iload_n hx hb dX9_between_0 rfl (lv_at hl 3 rfl) ?_
  refine lv_i2l (v := x3.toInt64) hx hb dX9_between_1 rfl ?_
  refine lv_lconst (v := (0 : Int64)) hx hb dX9_between_2 (by decide) ?_
  refine lv_ldc2 hx hb hown (ht _ kKJ_RX9_233) dX9_between_3 ?_
  obtain ⟨q1, hq1, hf⟩ := obE hf
  refine ct_cSi (rest := []) (tX9_in hD hq1) hx hb hml hown ht hX hP hS wX9_in kML_RX9_172 rfl rfl ⟨Nat.le_of_ble_eq_true rfl, Nat.le_of_ble_eq_true rfl⟩ rfl hl.1 rfl (Nat.le_of_ble_eq_true rfl) dX9_between_6 (fun H locs hP hS => ?_)
  refine lv_if_ne (tgt := 15) hx hb dX9_between_9 (by decide) (fun hc2 => ?_) (fun hc2 => ?_)
  · rw [if_neg hc2] at hf
    refine lv_iload_n hx hb dX9_between_15 rfl (lv_at hl 3 rfl) ?_
    refine lv_iconst (v := (2 : Int32)) hx hb dX9_between_16 (by decide) ?_
    refine lv_icmp_ge (tgt := 39) hx hb dX9_between_17 (by decide) (fun hc3 => ?_) (fun hc3 => ?_)
    · rw [if_pos hc3] at hf
      refine lv_aload_n hx hb dX9_between_39 rfl (lv_at hl 0 rfl) ?_
      refine lv_iload_n hx hb dX9_between_40 rfl (lv_at hl 1 rfl) ?_
      refine lv_if_ge (tgt := 48) hx hb dX9_between_41 (by decide) (fun hc4 => ?_) (fun hc4 => ?_)
      · rw [if_pos hc4] at hf
        refine lv_iload_n hx hb dX9_between_48 rfl (lv_at hl 1 rfl) ?_
        refine lv_iload_n hx hb dX9_between_49 rfl (lv_at hl 2 rfl) ?_
        obtain ⟨q5, hq5, hf⟩ := obE hf
        refine ct_cVi (rest := []) (tX9_most hD hq5) hx hb hml hown ht hX hP hS wX9_most kML_RX9_239 rfl rfl ⟨Nat.le_of_ble_eq_true rfl, Nat.le_of_ble_eq_true rfl⟩ (va_recv hX.1 hP rfl mw_obj) rfl hl.1 rfl (Nat.le_of_ble_eq_true rfl) dX9_between_50 (fun H locs hP hS => ?_)
        have e0 := Option.some.inj hf
        subst e0
        exact hret _ _ _ _ hP hS dX9_between_53
      · rw [if_neg hc4] at hf
        refine lv_iconst (v := (0 : Int32)) hx hb dX9_between_44 (by decide) ?_
        refine lv_goto (tgt := 49) hx hb dX9_between_45 (by decide) ?_
        refine lv_iload_n hx hb dX9_between_49 rfl (lv_at hl 2 rfl) ?_
        obtain ⟨q6, hq6, hf⟩ := obE hf
        refine ct_cVi (rest := []) (tX9_most hD hq6) hx hb hml hown ht hX hP hS wX9_most kML_RX9_239 rfl rfl ⟨Nat.le_of_ble_eq_true rfl, Nat.le_of_ble_eq_true rfl⟩ (va_recv hX.1 hP rfl mw_obj) rfl hl.1 rfl (Nat.le_of_ble_eq_true rfl) dX9_between_50 (fun H locs hP hS => ?_)
        have e0 := Option.some.inj hf
        subst e0
        exact hret _ _ _ _ hP hS dX9_between_53
    · rw [if_neg hc3] at hf
      refine lv_aload_n hx hb dX9_between_20 rfl (lv_at hl 0 rfl) ?_
      refine lv_iload_n hx hb dX9_between_21 rfl (lv_at hl 1 rfl) ?_
      refine lv_iload_n hx hb dX9_between_22 rfl (lv_at hl 2 rfl) ?_
      refine lv_iload_n hx hb dX9_between_23 rfl (lv_at hl 3 rfl) ?_
      refine lv_iconst (v := (1 : Int32)) hx hb dX9_between_24 (by decide) ?_
      refine lv_icmp_ne (tgt := 32) hx hb dX9_between_25 (by decide) (fun hc7 => ?_) (fun hc7 => ?_)
      · rw [if_neg hc7] at hf
        refine lv_iconst (v := (0 : Int32)) hx hb dX9_between_32 (by decide) ?_
        obtain ⟨q8, hq8, hf⟩ := obE hf
        refine ct_cVi (rest := []) (tX9_sumBetween hD hq8) hx hb hml hown ht hX hP hS wX9_sumBetween kML_RX9_235 rfl rfl ⟨Nat.le_of_ble_eq_true rfl, Nat.le_of_ble_eq_true rfl⟩ (va_recv hX.1 hP rfl mw_obj) rfl hl.1 rfl (Nat.le_of_ble_eq_true rfl) dX9_between_33 (fun H locs hP hS => ?_)
        refine lv_goto (tgt := 53) hx hb dX9_between_36 (by decide) ?_
        have e0 := Option.some.inj hf
        subst e0
        exact hret _ _ _ _ hP hS dX9_between_53
      · rw [if_pos hc7] at hf
        refine lv_iconst (v := (1 : Int32)) hx hb dX9_between_28 (by decide) ?_
        refine lv_goto (tgt := 33) hx hb dX9_between_29 (by decide) ?_
        obtain ⟨q9, hq9, hf⟩ := obE hf
        refine ct_cVi (rest := []) (tX9_sumBetween hD hq9) hx hb hml hown ht hX hP hS wX9_sumBetween kML_RX9_235 rfl rfl ⟨Nat.le_of_ble_eq_true rfl, Nat.le_of_ble_eq_true rfl⟩ (va_recv hX.1 hP rfl mw_obj) rfl hl.1 rfl (Nat.le_of_ble_eq_true rfl) dX9_between_33 (fun H locs hP hS => ?_)
        refine lv_goto (tgt := 53) hx hb dX9_between_36 (by decide) ?_
        have e0 := Option.some.inj hf
        subst e0
        exact hret _ _ _ _ hP hS dX9_between_53
  · rw [if_pos hc2] at hf
    refine lv_ldc hx hb hown (ht _ kKI_RX9_171) dX9_between_12 ?_
    have e0 := Option.some.inj hf
    subst e0
    exact hret _ _ _ _ hP hS dX9_between_14
def fX9_way_72 (F : Nat) (now : Nat → Int32) (x2 : Int32) (x3 : Int32) (x4 : Int32) : Option (Int32) := if x4 = x2 then ((fX9_of F now x3 (0 : Int32)).bind fun q14 => (some q14)) else (some (-1 : Int32))
def fX9_way_29 (F : Nat) (now : Nat → Int32) : Nat → Int32 → Int32 → Int32 → Int32 → Option (Int32)
  | 0, _, _, _, _ => none
  | n + 1, x1, x2, x3, x4 => if x2 ≤ x4 then (fX9_way_72 F now x2 x3 x4) else ((fX9_of F now x3 (0 : Int32)).bind fun q7 => (if q7 = x1 then (fX9_way_72 F now x2 x3 x4) else ((fX9_of F now x3 (0 : Int32)).bind fun q9 => (if q9 ≤ x1 then ((fX9_child F now x3 (0 : Int32)).bind fun q11 => (fX9_way_29 F now n x1 x2 q11 (x4 + (1 : Int32)))) else ((fX9_child F now x3 (1 : Int32)).bind fun q12 => (fX9_way_29 F now n x1 x2 q12 (x4 + (1 : Int32))))))))
def fX9_way (F : Nat) (now : Nat → Int32) (x1 : Int32) (x2 : Int32) : Option (Int32) := if x1 < 0 then (some (-1000000001 : Int32)) else ((fX9_isThere F now x1).bind fun q2 => (if q2 = 0 then (some (-1000000001 : Int32)) else (if 0 ≤ x2 then ((fX9_top F now).bind fun q5 => (fX9_way_29 F now F x1 x2 q5 (0 : Int32))) else (some (-1 : Int32)))))
abbrev rX9_way : Room := { frames := 4, cells := 0, slots := 0, locals := 87 }
theorem wX9_way : kV yX9_way cX9_way 5 (some .int) 2 := ⟨kCO_yX9_way, kIM_yX9_way, kSE_yX9_way, kIN_RX9, by decide +kernel, by decide +kernel, by decide +kernel⟩
set_option maxHeartbeats 4000000 in
set_option maxRecDepth 100000 in
theorem tX9_way {l : Launch} {D : va_G} {cI cZ : ClassId} {ad : Nat → Nat} (hD : gInj 15 ad) {F : Nat} {un sd : Int32} {now past images iseed kept order numof above pile aside fewest deep keys worths : Nat → Int32} {x1 : Int32} {x2 : Int32} {res : Int32} (hf : fX9_way F now x1 x2 = some res) : CTi l yX9_way cX9_way 5 .int rX9_way D (mTy cI cZ) (gA 15 ad) [.ref (ad 0), .int x1, .int x2] (mw cI cZ ad un sd now past images iseed kept order numof above pile aside fewest deep keys worths) res (mw cI cZ ad un sd now past images iseed kept order numof above pile aside fewest deep keys worths) := by
  refine ct_int (by decide) (Nat.le_of_ble_eq_true rfl) ?_
  intro p e s m args below meth c Q ls hx hb hml hown ht hX hret hP hS hl
  have hl : lv_has ls 5 [(0, .ref (ad 0)), (1, .int x1), (2, .int x2)] := hl
  have blk72 : ∀ (H : Heap) (locs : List Loc) (x2 : Int32) (x3 : Int32) (x4 : Int32) (ls : Array Slot), va_P D vwCl (mw cI cZ ad un sd now past images iseed kept order numof above pile aside fewest deep keys worths) H → va_S (gA 15 ad) s.heap H locs → lv_has ls 5 [(0, .ref (ad 0)), (2, .int x2), (3, .int x3), (4, .int x4)] → fX9_way_72 F now x2 x3 x4 = some res → W p l e rX9_way s m args below meth c H locs 0 0 Q (F0 m 72 ls []) := by
    intro H locs x2 x3 x4 ls hP hS hl hf
    unfold fX9_way_72 at hf
    refine lv_iload hx hb dX9_way_72 (lv_at hl 3 rfl) ?_
    refine lv_iload_n hx hb dX9_way_74 rfl (lv_at hl 1 rfl) ?_
    refine lv_icmp_ne (tgt := 87) hx hb dX9_way_75 (by decide) (fun hc13 => ?_) (fun hc13 => ?_)
    · rw [if_neg hc13] at hf
      refine lv_iconst (v := (-1 : Int32)) hx hb dX9_way_87 (by decide) ?_
      have e0 := Option.some.inj hf
      subst e0
      exact hret _ _ _ _ hP hS dX9_way_88
    · rw [if_pos hc13] at hf
      refine lv_aload_n hx hb dX9_way_78 rfl (lv_at hl 0 rfl) ?_
      refine lv_iload_n hx hb dX9_way_79 rfl (lv_at hl 2 rfl) ?_
      refine lv_iconst (v := (0 : Int32)) hx hb dX9_way_80 (by decide) ?_
      obtain ⟨q14, hq14, hf⟩ := obE hf
      refine ct_cVi (rest := []) (tX9_of hD hq14) hx hb hml hown ht hX hP hS wX9_of kML_RX9_63 rfl rfl ⟨Nat.le_of_ble_eq_true rfl, Nat.le_of_ble_eq_true rfl⟩ (va_recv hX.1 hP rfl mw_obj) rfl hl.1 rfl (Nat.le_of_ble_eq_true rfl) dX9_way_81 (fun H locs hP hS => ?_)
      refine lv_goto (tgt := 88) hx hb dX9_way_84 (by decide) ?_
      have e0 := Option.some.inj hf
      subst e0
      exact hret _ _ _ _ hP hS dX9_way_88
  have blk29 : ∀ (n29 : Nat) (H : Heap) (locs : List Loc) (x1 : Int32) (x2 : Int32) (x3 : Int32) (x4 : Int32) (ls : Array Slot), va_P D vwCl (mw cI cZ ad un sd now past images iseed kept order numof above pile aside fewest deep keys worths) H → va_S (gA 15 ad) s.heap H locs → lv_has ls 5 [(0, .ref (ad 0)), (1, .int x1), (2, .int x2), (3, .int x3), (4, .int x4)] → fX9_way_29 F now n29 x1 x2 x3 x4 = some res → W p l e rX9_way s m args below meth c H locs 0 0 Q (F0 m 29 ls []) := by
    intro n29
    induction n29 with
    | zero =>
      intro H locs x1 x2 x3 x4 ls hP hS hl hf
      rw [fX9_way_29] at hf
      cases hf
    | succ n29 ih29 =>
      skip
      intro H locs x1 x2 x3 x4 ls hP hS hl hf
      rw [fX9_way_29] at hf
      refine lv_iload hx hb dX9_way_29 (lv_at hl 4 rfl) ?_
      refine lv_iload_n hx hb dX9_way_31 rfl (lv_at hl 2 rfl) ?_
      refine lv_icmp_ge (tgt := 72) hx hb dX9_way_32 (by decide) (fun hc6 => ?_) (fun hc6 => ?_)
      · rw [if_pos hc6] at hf
        exact blk72 _ _ x2 x3 x4 ls hP hS (lv_sub hl [0, 2, 3, 4] rfl) hf
      · rw [if_neg hc6] at hf
        refine lv_aload_n hx hb dX9_way_35 rfl (lv_at hl 0 rfl) ?_
        refine lv_iload_n hx hb dX9_way_36 rfl (lv_at hl 3 rfl) ?_
        refine lv_iconst (v := (0 : Int32)) hx hb dX9_way_37 (by decide) ?_
        obtain ⟨q7, hq7, hf⟩ := obE hf
        refine ct_cVi (rest := []) (tX9_of hD hq7) hx hb hml hown ht hX hP hS wX9_of kML_RX9_63 rfl rfl ⟨Nat.le_of_ble_eq_true rfl, Nat.le_of_ble_eq_true rfl⟩ (va_recv hX.1 hP rfl mw_obj) rfl hl.1 rfl (Nat.le_of_ble_eq_true rfl) dX9_way_38 (fun H locs hP hS => ?_)
        refine lv_iload_n hx hb dX9_way_41 rfl (lv_at hl 1 rfl) ?_
        refine lv_icmp_eq (tgt := 72) hx hb dX9_way_42 (by decide) (fun hc8 => ?_) (fun hc8 => ?_)
        · rw [if_pos hc8] at hf
          exact blk72 _ _ x2 x3 x4 ls hP hS (lv_sub hl [0, 2, 3, 4] rfl) hf
        · rw [if_neg hc8] at hf
          refine lv_aload_n hx hb dX9_way_45 rfl (lv_at hl 0 rfl) ?_
          refine lv_iload_n hx hb dX9_way_46 rfl (lv_at hl 3 rfl) ?_
          refine lv_iload_n hx hb dX9_way_47 rfl (lv_at hl 1 rfl) ?_
          refine lv_aload_n hx hb dX9_way_48 rfl (lv_at hl 0 rfl) ?_
          refine lv_iload_n hx hb dX9_way_49 rfl (lv_at hl 3 rfl) ?_
          refine lv_iconst (v := (0 : Int32)) hx hb dX9_way_50 (by decide) ?_
          obtain ⟨q9, hq9, hf⟩ := obE hf
          refine ct_cVi (rest := [.int x1, .int x3, .ref (ad 0)]) (tX9_of hD hq9) hx hb hml hown ht hX hP hS wX9_of kML_RX9_63 rfl rfl ⟨Nat.le_of_ble_eq_true rfl, Nat.le_of_ble_eq_true rfl⟩ (va_recv hX.1 hP rfl mw_obj) rfl hl.1 rfl (Nat.le_of_ble_eq_true rfl) dX9_way_51 (fun H locs hP hS => ?_)
          refine lv_icmp_ge (tgt := 61) hx hb dX9_way_54 (by decide) (fun hc10 => ?_) (fun hc10 => ?_)
          · rw [if_pos hc10] at hf
            refine lv_iconst (v := (0 : Int32)) hx hb dX9_way_61 (by decide) ?_
            obtain ⟨q11, hq11, hf⟩ := obE hf
            refine ct_cVi (rest := []) (tX9_child hD hq11) hx hb hml hown ht hX hP hS wX9_child kML_RX9_71 rfl rfl ⟨Nat.le_of_ble_eq_true rfl, Nat.le_of_ble_eq_true rfl⟩ (va_recv hX.1 hP rfl mw_obj) rfl hl.1 rfl (Nat.le_of_ble_eq_true rfl) dX9_way_62 (fun H locs hP hS => ?_)
            refine lv_istore_n (lv' := [(3, .int q11), (0, .ref (ad 0)), (1, .int x1), (2, .int x2), (4, .int x4)]) hx hb dX9_way_65 rfl hl (by decide) rfl (fun ls hl => ?_)
            refine lv_iinc (v := x4 + (1 : Int32)) (lv' := [(4, .int (x4 + (1 : Int32))), (3, .int q11), (0, .ref (ad 0)), (1, .int x1), (2, .int x2)]) hx hb dX9_way_66 hl (k := 4) rfl rfl (by decide) rfl (fun ls hl => ?_)
            refine lv_goto (tgt := 29) hx hb dX9_way_69 (by decide) ?_
            exact ih29 _ _ x1 x2 q11 (x4 + (1 : Int32)) ls hP hS (lv_sub hl [2, 3, 4, 1, 0] rfl) hf
          · rw [if_neg hc10] at hf
            refine lv_iconst (v := (1 : Int32)) hx hb dX9_way_57 (by decide) ?_
            refine lv_goto (tgt := 62) hx hb dX9_way_58 (by decide) ?_
            obtain ⟨q12, hq12, hf⟩ := obE hf
            refine ct_cVi (rest := []) (tX9_child hD hq12) hx hb hml hown ht hX hP hS wX9_child kML_RX9_71 rfl rfl ⟨Nat.le_of_ble_eq_true rfl, Nat.le_of_ble_eq_true rfl⟩ (va_recv hX.1 hP rfl mw_obj) rfl hl.1 rfl (Nat.le_of_ble_eq_true rfl) dX9_way_62 (fun H locs hP hS => ?_)
            refine lv_istore_n (lv' := [(3, .int q12), (0, .ref (ad 0)), (1, .int x1), (2, .int x2), (4, .int x4)]) hx hb dX9_way_65 rfl hl (by decide) rfl (fun ls hl => ?_)
            refine lv_iinc (v := x4 + (1 : Int32)) (lv' := [(4, .int (x4 + (1 : Int32))), (3, .int q12), (0, .ref (ad 0)), (1, .int x1), (2, .int x2)]) hx hb dX9_way_66 hl (k := 4) rfl rfl (by decide) rfl (fun ls hl => ?_)
            refine lv_goto (tgt := 29) hx hb dX9_way_69 (by decide) ?_
            exact ih29 _ _ x1 x2 q12 (x4 + (1 : Int32)) ls hP hS (lv_sub hl [2, 3, 4, 1, 0] rfl) hf
  unfold fX9_way at hf
  refine lv_iload_n hx hb dX9_way_0 rfl (lv_at hl 1 rfl) ?_
  refine lv_if_lt (tgt := 12) hx hb dX9_way_1 (by decide) (fun hc1 => ?_) (fun hc1 => ?_)
  · rw [if_pos hc1] at hf
    refine lv_ldc hx hb hown (ht _ kKI_RX9_179) dX9_way_12 ?_
    have e0 := Option.some.inj hf
    subst e0
    exact hret _ _ _ _ hP hS dX9_way_14
  · rw [if_neg hc1] at hf
    refine lv_aload_n hx hb dX9_way_4 rfl (lv_at hl 0 rfl) ?_
    refine lv_iload_n hx hb dX9_way_5 rfl (lv_at hl 1 rfl) ?_
    obtain ⟨q2, hq2, hf⟩ := obE hf
    refine ct_cVi (rest := []) (tX9_isThere hD hq2) hx hb hml hown ht hX hP hS wX9_isThere kML_RX9_196 rfl rfl ⟨Nat.le_of_ble_eq_true rfl, Nat.le_of_ble_eq_true rfl⟩ (va_recv hX.1 hP rfl mw_obj) rfl hl.1 rfl (Nat.le_of_ble_eq_true rfl) dX9_way_6 (fun H locs hP hS => ?_)
    refine lv_if_ne (tgt := 15) hx hb dX9_way_9 (by decide) (fun hc3 => ?_) (fun hc3 => ?_)
    · rw [if_neg hc3] at hf
      refine lv_iload_n hx hb dX9_way_15 rfl (lv_at hl 2 rfl) ?_
      refine lv_if_ge (tgt := 21) hx hb dX9_way_16 (by decide) (fun hc4 => ?_) (fun hc4 => ?_)
      · rw [if_pos hc4] at hf
        refine lv_aload_n hx hb dX9_way_21 rfl (lv_at hl 0 rfl) ?_
        obtain ⟨q5, hq5, hf⟩ := obE hf
        refine ct_cVi (rest := []) (tX9_top hD hq5) hx hb hml hown ht hX hP hS wX9_top kML_RX9_87 rfl rfl ⟨Nat.le_of_ble_eq_true rfl, Nat.le_of_ble_eq_true rfl⟩ (va_recv hX.1 hP rfl mw_obj) rfl hl.1 rfl (Nat.le_of_ble_eq_true rfl) dX9_way_22 (fun H locs hP hS => ?_)
        refine lv_istore_n (lv' := [(3, .int q5), (0, .ref (ad 0)), (1, .int x1), (2, .int x2)]) hx hb dX9_way_25 rfl hl (by decide) rfl (fun ls hl => ?_)
        refine lv_iconst (v := (0 : Int32)) hx hb dX9_way_26 (by decide) ?_
        refine lv_istore (lv' := [(4, .int ((0 : Int32))), (3, .int q5), (0, .ref (ad 0)), (1, .int x1), (2, .int x2)]) hx hb dX9_way_27 hl (by decide) rfl (fun ls hl => ?_)
        exact blk29 F _ _ x1 x2 q5 (0 : Int32) ls hP hS (lv_sub hl [2, 3, 4, 1, 0] rfl) hf
      · rw [if_neg hc4] at hf
        refine lv_iconst (v := (-1 : Int32)) hx hb dX9_way_19 (by decide) ?_
        have e0 := Option.some.inj hf
        subst e0
        exact hret _ _ _ _ hP hS dX9_way_20
    · rw [if_pos hc3] at hf
      refine lv_ldc hx hb hown (ht _ kKI_RX9_179) dX9_way_12 ?_
      have e0 := Option.some.inj hf
      subst e0
      exact hret _ _ _ _ hP hS dX9_way_14
def fX9_rankWith (F : Nat) (now : Nat → Int32) (x1 : Int32) (x2 : Int32) (x3 : Int32) : Option (Int32) := if x1 = (-1 : Int32) then (some (-1 : Int32)) else (if x1 = x2 then (some x3) else ((fX9_of F now x1 (2 : Int32)).bind fun q3 => (some q3)))
abbrev rX9_rankWith : Room := { frames := 1, cells := 0, slots := 0, locals := 22 }
theorem wX9_rankWith : kV yX9_rankWith cX9_rankWith 4 (some .int) 3 := ⟨kCO_yX9_rankWith, kIM_yX9_rankWith, kSE_yX9_rankWith, kIN_RX9, by decide +kernel, by decide +kernel, by decide +kernel⟩
set_option maxHeartbeats 4000000 in
set_option maxRecDepth 100000 in
theorem tX9_rankWith {l : Launch} {D : va_G} {cI cZ : ClassId} {ad : Nat → Nat} (hD : gInj 15 ad) {F : Nat} {un sd : Int32} {now past images iseed kept order numof above pile aside fewest deep keys worths : Nat → Int32} {x1 : Int32} {x2 : Int32} {x3 : Int32} {res : Int32} (hf : fX9_rankWith F now x1 x2 x3 = some res) : CTi l yX9_rankWith cX9_rankWith 4 .int rX9_rankWith D (mTy cI cZ) (gA 15 ad) [.ref (ad 0), .int x1, .int x2, .int x3] (mw cI cZ ad un sd now past images iseed kept order numof above pile aside fewest deep keys worths) res (mw cI cZ ad un sd now past images iseed kept order numof above pile aside fewest deep keys worths) := by
  refine ct_int (by decide) (Nat.le_of_ble_eq_true rfl) ?_
  intro p e s m args below meth c Q ls hx hb hml hown ht hX hret hP hS hl
  have hl : lv_has ls 4 [(0, .ref (ad 0)), (1, .int x1), (2, .int x2), (3, .int x3)] := hl
  unfold fX9_rankWith at hf
  refine lv_iload_n hx hb dX9_rankWith_0 rfl (lv_at hl 1 rfl) ?_
  refine lv_iconst (v := (-1 : Int32)) hx hb dX9_rankWith_1 (by decide) ?_
  refine lv_icmp_ne (tgt := 9) hx hb dX9_rankWith_2 (by decide) (fun hc1 => ?_) (fun hc1 => ?_)
  · rw [if_neg hc1] at hf
    refine lv_iload_n hx hb dX9_rankWith_9 rfl (lv_at hl 1 rfl) ?_
    refine lv_iload_n hx hb dX9_rankWith_10 rfl (lv_at hl 2 rfl) ?_
    refine lv_icmp_ne (tgt := 18) hx hb dX9_rankWith_11 (by decide) (fun hc2 => ?_) (fun hc2 => ?_)
    · rw [if_neg hc2] at hf
      refine lv_aload_n hx hb dX9_rankWith_18 rfl (lv_at hl 0 rfl) ?_
      refine lv_iload_n hx hb dX9_rankWith_19 rfl (lv_at hl 1 rfl) ?_
      refine lv_iconst (v := (2 : Int32)) hx hb dX9_rankWith_20 (by decide) ?_
      obtain ⟨q3, hq3, hf⟩ := obE hf
      refine ct_cVi (rest := []) (tX9_of hD hq3) hx hb hml hown ht hX hP hS wX9_of kML_RX9_63 rfl rfl ⟨Nat.le_of_ble_eq_true rfl, Nat.le_of_ble_eq_true rfl⟩ (va_recv hX.1 hP rfl mw_obj) rfl hl.1 rfl (Nat.le_of_ble_eq_true rfl) dX9_rankWith_21 (fun H locs hP hS => ?_)
      have e0 := Option.some.inj hf
      subst e0
      exact hret _ _ _ _ hP hS dX9_rankWith_24
    · rw [if_pos hc2] at hf
      refine lv_iload_n hx hb dX9_rankWith_14 rfl (lv_at hl 3 rfl) ?_
      refine lv_goto (tgt := 24) hx hb dX9_rankWith_15 (by decide) ?_
      have e0 := Option.some.inj hf
      subst e0
      exact hret _ _ _ _ hP hS dX9_rankWith_24
  · rw [if_pos hc1] at hf
    refine lv_iconst (v := (-1 : Int32)) hx hb dX9_rankWith_5 (by decide) ?_
    refine lv_goto (tgt := 24) hx hb dX9_rankWith_6 (by decide) ?_
    have e0 := Option.some.inj hf
    subst e0
    exact hret _ _ _ _ hP hS dX9_rankWith_24
def fX9_audit_129 (F : Nat) (now : Nat → Int32) (k42 : (Nat → Int32) → (Nat → Int32) → (Nat → Int32) → (Nat → Int32) → Int32 → Int32 → Int32 → Option (Int32 × (Nat → Int32) × (Nat → Int32) × (Nat → Int32) × (Nat → Int32))) (order : Nat → Int32) (numof : Nat → Int32) (above : Nat → Int32) (pile : Nat → Int32) (x2 : Int32) (x3 : Int32) (x4 : Int32) (x5 : Int32) (x6 : Int32) (y0 : Int32) : Option (Int32 × (Nat → Int32) × (Nat → Int32) × (Nat → Int32) × (Nat → Int32)) := if y0 = 0 then (some (x4, order, numof, above, pile)) else ((fX9_hasNoChildren F now x5).bind fun q20 => (if q20 = 0 then (k42 order numof above pile x2 x3 (x4 + (1 : Int32))) else (if x6 = 0 then (k42 order numof above pile x2 x3 (x4 + (1 : Int32))) else (some (x4, order, numof, above, pile)))))
def fX9_audit_128 (F : Nat) (now : Nat → Int32) (k42 : (Nat → Int32) → (Nat → Int32) → (Nat → Int32) → (Nat → Int32) → Int32 → Int32 → Int32 → Option (Int32 × (Nat → Int32) × (Nat → Int32) × (Nat → Int32) × (Nat → Int32))) (order : Nat → Int32) (numof : Nat → Int32) (above : Nat → Int32) (pile : Nat → Int32) (x2 : Int32) (x3 : Int32) (x4 : Int32) (x5 : Int32) (x6 : Int32) : Option (Int32 × (Nat → Int32) × (Nat → Int32) × (Nat → Int32) × (Nat → Int32)) := fX9_audit_129 F now k42 order numof above pile x2 x3 x4 x5 x6 (0 : Int32)
def fX9_audit_42 (F : Nat) (now : Nat → Int32) : Nat → (Nat → Int32) → (Nat → Int32) → (Nat → Int32) → (Nat → Int32) → Int32 → Int32 → Int32 → Option (Int32 × (Nat → Int32) × (Nat → Int32) × (Nat → Int32) × (Nat → Int32))
  | 0, _, _, _, _, _, _, _ => none
  | n + 1, order, numof, above, pile, x2, x3, x4 => (fX9_many F now).bind fun q7 => (if q7 ≤ x4 then (some ((-1 : Int32), order, numof, above, pile)) else (if x4 < 0 ∨ 60 ≤ x4.toNatClampNeg then none else ((fX9_rankWith F now (order x4.toNatClampNeg) x3 x2).bind fun q10 => ((fX9_of F now (order x4.toNatClampNeg) (3 : Int32)).bind fun q11 => ((fX9_rankWith F now q11 x3 x2).bind fun q12 => ((fX9_in F ((q10 - q12).toInt64) (1 : Int64) (2 : Int64)).bind fun q13 => (if q13 = 0 then (fX9_audit_128 F now (fun order numof above pile x2 x3 x4 => fX9_audit_42 F now n order numof above pile x2 x3 x4) order numof above pile x2 x3 x4 (order x4.toNatClampNeg) q10) else ((fX9_of F now (order x4.toNatClampNeg) (4 : Int32)).bind fun q15 => ((fX9_rankWith F now q15 x3 x2).bind fun q16 => ((fX9_in F ((q10 - q16).toInt64) (1 : Int64) (2 : Int64)).bind fun q17 => (if q17 = 0 then (fX9_audit_128 F now (fun order numof above pile x2 x3 x4 => fX9_audit_42 F now n order numof above pile x2 x3 x4) order numof above pile x2 x3 x4 (order x4.toNatClampNeg) q10) else (fX9_audit_129 F now (fun order numof above pile x2 x3 x4 => fX9_audit_42 F now n order numof above pile x2 x3 x4) order numof above pile x2 x3 x4 (order x4.toNatClampNeg) q10 (1 : Int32)))))))))))))
def fX9_audit (F : Nat) (now : Nat → Int32) (order : Nat → Int32) (numof : Nat → Int32) (above : Nat → Int32) (pile : Nat → Int32) (x1 : Int32) (x2 : Int32) : Option (Int32 × (Nat → Int32) × (Nat → Int32) × (Nat → Int32) × (Nat → Int32)) := (fX9_isNode F now x1).bind fun q1 => (if q1 = 0 then (some ((-1000000001 : Int32), order, numof, above, pile)) else ((fX9_in F x2.toInt64 (-1 : Int64) (30 : Int64)).bind fun q3 => (if q3 = 0 then (some ((-1000000002 : Int32), order, numof, above, pile)) else ((fX9_numbers F now order numof above pile).bind fun q5 => (if x1 < 0 ∨ 60 ≤ x1.toNatClampNeg then none else (fX9_audit_42 F now F q5.1 q5.2.1 q5.2.2.1 q5.2.2.2 x2 (q5.1 x1.toNatClampNeg) (0 : Int32)))))))
abbrev rX9_audit : Room := { frames := 3, cells := 0, slots := 0, locals := 69 }
theorem wX9_audit : kV yX9_audit cX9_audit 8 (some .int) 2 := ⟨kCO_yX9_audit, kIM_yX9_audit, kSE_yX9_audit, kIN_RX9, by decide +kernel, by decide +kernel, by decide +kernel⟩
set_option maxHeartbeats 4000000 in
set_option maxRecDepth 100000 in
theorem tX9_audit {l : Launch} {D : va_G} {cI cZ : ClassId} {ad : Nat → Nat} (hD : gInj 15 ad) {F : Nat} {un sd : Int32} {now past images iseed kept order numof above pile aside fewest deep keys worths : Nat → Int32} {x1 : Int32} {x2 : Int32} {res : Int32 × (Nat → Int32) × (Nat → Int32) × (Nat → Int32) × (Nat → Int32)} (hf : fX9_audit F now order numof above pile x1 x2 = some res) : CTi l yX9_audit cX9_audit 8 .int rX9_audit D (mTy cI cZ) (gA 15 ad) [.ref (ad 0), .int x1, .int x2] (mw cI cZ ad un sd now past images iseed kept order numof above pile aside fewest deep keys worths) res.1 (mw cI cZ ad un sd now past images iseed kept res.2.1 res.2.2.1 res.2.2.2.1 res.2.2.2.2 aside fewest deep keys worths) := by
  refine ct_int (by decide) (Nat.le_of_ble_eq_true rfl) ?_
  intro p e s m args below meth c Q ls hx hb hml hown ht hX hret hP hS hl
  have hl : lv_has ls 8 [(0, .ref (ad 0)), (1, .int x1), (2, .int x2)] := hl
  have blk42 : ∀ (n42 : Nat) (H : Heap) (locs : List Loc) (order : Nat → Int32) (numof : Nat → Int32) (above : Nat → Int32) (pile : Nat → Int32) (x2 : Int32) (x3 : Int32) (x4 : Int32) (ls : Array Slot), va_P D vwCl (mw cI cZ ad un sd now past images iseed kept order numof above pile aside fewest deep keys worths) H → va_S (gA 15 ad) s.heap H locs → lv_has ls 8 [(0, .ref (ad 0)), (2, .int x2), (3, .int x3), (4, .int x4)] → fX9_audit_42 F now n42 order numof above pile x2 x3 x4 = some res → W p l e rX9_audit s m args below meth c H locs 0 0 Q (F0 m 42 ls []) := by
    intro n42
    induction n42 with
    | zero =>
      intro H locs order numof above pile x2 x3 x4 ls hP hS hl hf
      rw [fX9_audit_42] at hf
      cases hf
    | succ n42 ih42 =>
      skip
      have blk129 : ∀ (H : Heap) (locs : List Loc) (order : Nat → Int32) (numof : Nat → Int32) (above : Nat → Int32) (pile : Nat → Int32) (x2 : Int32) (x3 : Int32) (x4 : Int32) (x5 : Int32) (x6 : Int32) (y0 : Int32) (ls : Array Slot), va_P D vwCl (mw cI cZ ad un sd now past images iseed kept order numof above pile aside fewest deep keys worths) H → va_S (gA 15 ad) s.heap H locs → lv_has ls 8 [(0, .ref (ad 0)), (2, .int x2), (3, .int x3), (4, .int x4), (5, .int x5), (6, .int x6)] → fX9_audit_129 F now (fun order numof above pile x2 x3 x4 => fX9_audit_42 F now n42 order numof above pile x2 x3 x4) order numof above pile x2 x3 x4 x5 x6 y0 = some res → W p l e rX9_audit s m args below meth c H locs 0 0 Q (F0 m 129 ls [.int y0]) := by
        intro H locs order numof above pile x2 x3 x4 x5 x6 y0 ls hP hS hl hf
        unfold fX9_audit_129 at hf
        refine lv_istore (lv' := [(7, .int y0), (0, .ref (ad 0)), (2, .int x2), (3, .int x3), (4, .int x4), (5, .int x5), (6, .int x6)]) hx hb dX9_audit_129 hl (by decide) rfl (fun ls hl => ?_)
        refine lv_iload hx hb dX9_audit_131 (lv_at hl 0 rfl) ?_
        refine lv_if_eq (tgt := 150) hx hb dX9_audit_133 (by decide) (fun hc19 => ?_) (fun hc19 => ?_)
        · rw [if_pos hc19] at hf
          refine lv_iload hx hb dX9_audit_150 (lv_at hl 4 rfl) ?_
          have e0 := Option.some.inj hf
          subst e0
          exact hret _ _ _ _ hP hS dX9_audit_152
        · rw [if_neg hc19] at hf
          refine lv_aload_n hx hb dX9_audit_136 rfl (lv_at hl 1 rfl) ?_
          refine lv_iload hx hb dX9_audit_137 (lv_at hl 5 rfl) ?_
          obtain ⟨q20, hq20, hf⟩ := obE hf
          refine ct_cVi (rest := []) (tX9_hasNoChildren hD hq20) hx hb hml hown ht hX hP hS wX9_hasNoChildren kML_RX9_116 rfl rfl ⟨Nat.le_of_ble_eq_true rfl, Nat.le_of_ble_eq_true rfl⟩ (va_recv hX.1 hP rfl mw_obj) rfl hl.1 rfl (Nat.le_of_ble_eq_true rfl) dX9_audit_139 (fun H locs hP hS => ?_)
          refine lv_if_eq (tgt := 153) hx hb dX9_audit_142 (by decide) (fun hc21 => ?_) (fun hc21 => ?_)
          · rw [if_pos hc21] at hf
            refine lv_iinc (v := x4 + (1 : Int32)) (lv' := [(4, .int (x4 + (1 : Int32))), (7, .int y0), (0, .ref (ad 0)), (2, .int x2), (3, .int x3), (5, .int x5), (6, .int x6)]) hx hb dX9_audit_153 hl (k := 4) rfl rfl (by decide) rfl (fun ls hl => ?_)
            refine lv_goto (tgt := 42) hx hb dX9_audit_156 (by decide) ?_
            exact ih42 _ _ order numof above pile x2 x3 (x4 + (1 : Int32)) ls hP hS (lv_sub hl [2, 3, 4, 0] rfl) hf
          · rw [if_neg hc21] at hf
            refine lv_iload hx hb dX9_audit_145 (lv_at hl 6 rfl) ?_
            refine lv_if_eq (tgt := 153) hx hb dX9_audit_147 (by decide) (fun hc22 => ?_) (fun hc22 => ?_)
            · rw [if_pos hc22] at hf
              refine lv_iinc (v := x4 + (1 : Int32)) (lv' := [(4, .int (x4 + (1 : Int32))), (7, .int y0), (0, .ref (ad 0)), (2, .int x2), (3, .int x3), (5, .int x5), (6, .int x6)]) hx hb dX9_audit_153 hl (k := 4) rfl rfl (by decide) rfl (fun ls hl => ?_)
              refine lv_goto (tgt := 42) hx hb dX9_audit_156 (by decide) ?_
              exact ih42 _ _ order numof above pile x2 x3 (x4 + (1 : Int32)) ls hP hS (lv_sub hl [2, 3, 4, 0] rfl) hf
            · rw [if_neg hc22] at hf
              refine lv_iload hx hb dX9_audit_150 (lv_at hl 4 rfl) ?_
              have e0 := Option.some.inj hf
              subst e0
              exact hret _ _ _ _ hP hS dX9_audit_152
      have blk128 : ∀ (H : Heap) (locs : List Loc) (order : Nat → Int32) (numof : Nat → Int32) (above : Nat → Int32) (pile : Nat → Int32) (x2 : Int32) (x3 : Int32) (x4 : Int32) (x5 : Int32) (x6 : Int32) (ls : Array Slot), va_P D vwCl (mw cI cZ ad un sd now past images iseed kept order numof above pile aside fewest deep keys worths) H → va_S (gA 15 ad) s.heap H locs → lv_has ls 8 [(0, .ref (ad 0)), (2, .int x2), (3, .int x3), (4, .int x4), (5, .int x5), (6, .int x6)] → fX9_audit_128 F now (fun order numof above pile x2 x3 x4 => fX9_audit_42 F now n42 order numof above pile x2 x3 x4) order numof above pile x2 x3 x4 x5 x6 = some res → W p l e rX9_audit s m args below meth c H locs 0 0 Q (F0 m 128 ls []) := by
        intro H locs order numof above pile x2 x3 x4 x5 x6 ls hP hS hl hf
        unfold fX9_audit_128 at hf
        refine lv_iconst (v := (0 : Int32)) hx hb dX9_audit_128 (by decide) ?_
        exact blk129 _ _ order numof above pile x2 x3 x4 x5 x6 (0 : Int32) ls hP hS (lv_sub hl [0, 1, 2, 3, 4, 5] rfl) hf
      intro H locs order numof above pile x2 x3 x4 ls hP hS hl hf
      rw [fX9_audit_42] at hf
      refine lv_iload hx hb dX9_audit_42 (lv_at hl 3 rfl) ?_
      refine lv_aload_n hx hb dX9_audit_44 rfl (lv_at hl 0 rfl) ?_
      obtain ⟨q7, hq7, hf⟩ := obE hf
      refine ct_cVi (rest := [.int x4]) (tX9_many hD hq7) hx hb hml hown ht hX hP hS wX9_many kML_RX9_128 rfl rfl ⟨Nat.le_of_ble_eq_true rfl, Nat.le_of_ble_eq_true rfl⟩ (va_recv hX.1 hP rfl mw_obj) rfl hl.1 rfl (Nat.le_of_ble_eq_true rfl) dX9_audit_45 (fun H locs hP hS => ?_)
      refine lv_icmp_ge (tgt := 159) hx hb dX9_audit_48 (by decide) (fun hc8 => ?_) (fun hc8 => ?_)
      · rw [if_pos hc8] at hf
        refine lv_iconst (v := (-1 : Int32)) hx hb dX9_audit_159 (by decide) ?_
        have e0 := Option.some.inj hf
        subst e0
        exact hret _ _ _ _ hP hS dX9_audit_160
      · rw [if_neg hc8] at hf
        refine lv_aload_n hx hb dX9_audit_51 rfl (lv_at hl 0 rfl) ?_
        refine va_get (ci := 7) (v := .ref (ad 6)) hx hb ht i_X9 hown hX.1 hP 0 mw_obj rfl 7 (by decide) (ht _ kFL_RX9_26) (fun _ h9 => h9) rfl dX9_audit_52 ?_
        refine lv_iload hx hb dX9_audit_55 (lv_at hl 3 rfl) ?_
        obtain ⟨hn9, hf⟩ := ngE _ hf
        refine va_iald hx hb hX.1 hP 6 0 mw_order rfl hn9 dX9_audit_57 ?_
        refine lv_istore (lv' := [(5, .int (order x4.toNatClampNeg)), (0, .ref (ad 0)), (2, .int x2), (3, .int x3), (4, .int x4)]) hx hb dX9_audit_58 hl (by decide) rfl (fun ls hl => ?_)
        refine lv_aload_n hx hb dX9_audit_60 rfl (lv_at hl 1 rfl) ?_
        refine lv_iload hx hb dX9_audit_61 (lv_at hl 0 rfl) ?_
        refine lv_iload_n hx hb dX9_audit_63 rfl (lv_at hl 3 rfl) ?_
        refine lv_iload_n hx hb dX9_audit_64 rfl (lv_at hl 2 rfl) ?_
        obtain ⟨q10, hq10, hf⟩ := obE hf
        refine ct_cVi (rest := []) (tX9_rankWith hD hq10) hx hb hml hown ht hX hP hS wX9_rankWith kML_RX9_244 rfl rfl ⟨Nat.le_of_ble_eq_true rfl, Nat.le_of_ble_eq_true rfl⟩ (va_recv hX.1 hP rfl mw_obj) rfl hl.1 rfl (Nat.le_of_ble_eq_true rfl) dX9_audit_65 (fun H locs hP hS => ?_)
        refine lv_istore (lv' := [(6, .int q10), (5, .int (order x4.toNatClampNeg)), (0, .ref (ad 0)), (2, .int x2), (3, .int x3), (4, .int x4)]) hx hb dX9_audit_68 hl (by decide) rfl (fun ls hl => ?_)
        refine lv_iload hx hb dX9_audit_70 (lv_at hl 0 rfl) ?_
        refine lv_aload_n hx hb dX9_audit_72 rfl (lv_at hl 2 rfl) ?_
        refine lv_aload_n hx hb dX9_audit_73 rfl (lv_at hl 2 rfl) ?_
        refine lv_iload hx hb dX9_audit_74 (lv_at hl 1 rfl) ?_
        refine lv_iconst (v := (3 : Int32)) hx hb dX9_audit_76 (by decide) ?_
        obtain ⟨q11, hq11, hf⟩ := obE hf
        refine ct_cVi (rest := [.ref (ad 0), .int q10]) (tX9_of hD hq11) hx hb hml hown ht hX hP hS wX9_of kML_RX9_63 rfl rfl ⟨Nat.le_of_ble_eq_true rfl, Nat.le_of_ble_eq_true rfl⟩ (va_recv hX.1 hP rfl mw_obj) rfl hl.1 rfl (Nat.le_of_ble_eq_true rfl) dX9_audit_77 (fun H locs hP hS => ?_)
        refine lv_iload_n hx hb dX9_audit_80 rfl (lv_at hl 4 rfl) ?_
        refine lv_iload_n hx hb dX9_audit_81 rfl (lv_at hl 3 rfl) ?_
        obtain ⟨q12, hq12, hf⟩ := obE hf
        refine ct_cVi (rest := [.int q10]) (tX9_rankWith hD hq12) hx hb hml hown ht hX hP hS wX9_rankWith kML_RX9_244 rfl rfl ⟨Nat.le_of_ble_eq_true rfl, Nat.le_of_ble_eq_true rfl⟩ (va_recv hX.1 hP rfl mw_obj) rfl hl.1 rfl (Nat.le_of_ble_eq_true rfl) dX9_audit_82 (fun H locs hP hS => ?_)
        refine lv_isub hx hb dX9_audit_85 ?_
        refine lv_i2l (v := (q10 - q12).toInt64) hx hb dX9_audit_86 rfl ?_
        refine lv_lconst (v := (1 : Int64)) hx hb dX9_audit_87 (by decide) ?_
        refine lv_ldc2 hx hb hown (ht _ kKJ_RX9_233) dX9_audit_88 ?_
        obtain ⟨q13, hq13, hf⟩ := obE hf
        refine ct_cSi (rest := []) (tX9_in hD hq13) hx hb hml hown ht hX hP hS wX9_in kML_RX9_172 rfl rfl ⟨Nat.le_of_ble_eq_true rfl, Nat.le_of_ble_eq_true rfl⟩ rfl hl.1 rfl (Nat.le_of_ble_eq_true rfl) dX9_audit_91 (fun H locs hP hS => ?_)
        refine lv_if_eq (tgt := 128) hx hb dX9_audit_94 (by decide) (fun hc14 => ?_) (fun hc14 => ?_)
        · rw [if_pos hc14] at hf
          exact blk128 _ _ order numof above pile x2 x3 x4 (order x4.toNatClampNeg) q10 ls hP hS (lv_sub hl [2, 3, 4, 5, 1, 0] rfl) hf
        · rw [if_neg hc14] at hf
          refine lv_iload hx hb dX9_audit_97 (lv_at hl 0 rfl) ?_
          refine lv_aload_n hx hb dX9_audit_99 rfl (lv_at hl 2 rfl) ?_
          refine lv_aload_n hx hb dX9_audit_100 rfl (lv_at hl 2 rfl) ?_
          refine lv_iload hx hb dX9_audit_101 (lv_at hl 1 rfl) ?_
          refine lv_iconst (v := (4 : Int32)) hx hb dX9_audit_103 (by decide) ?_
          obtain ⟨q15, hq15, hf⟩ := obE hf
          refine ct_cVi (rest := [.ref (ad 0), .int q10]) (tX9_of hD hq15) hx hb hml hown ht hX hP hS wX9_of kML_RX9_63 rfl rfl ⟨Nat.le_of_ble_eq_true rfl, Nat.le_of_ble_eq_true rfl⟩ (va_recv hX.1 hP rfl mw_obj) rfl hl.1 rfl (Nat.le_of_ble_eq_true rfl) dX9_audit_104 (fun H locs hP hS => ?_)
          refine lv_iload_n hx hb dX9_audit_107 rfl (lv_at hl 4 rfl) ?_
          refine lv_iload_n hx hb dX9_audit_108 rfl (lv_at hl 3 rfl) ?_
          obtain ⟨q16, hq16, hf⟩ := obE hf
          refine ct_cVi (rest := [.int q10]) (tX9_rankWith hD hq16) hx hb hml hown ht hX hP hS wX9_rankWith kML_RX9_244 rfl rfl ⟨Nat.le_of_ble_eq_true rfl, Nat.le_of_ble_eq_true rfl⟩ (va_recv hX.1 hP rfl mw_obj) rfl hl.1 rfl (Nat.le_of_ble_eq_true rfl) dX9_audit_109 (fun H locs hP hS => ?_)
          refine lv_isub hx hb dX9_audit_112 ?_
          refine lv_i2l (v := (q10 - q16).toInt64) hx hb dX9_audit_113 rfl ?_
          refine lv_lconst (v := (1 : Int64)) hx hb dX9_audit_114 (by decide) ?_
          refine lv_ldc2 hx hb hown (ht _ kKJ_RX9_233) dX9_audit_115 ?_
          obtain ⟨q17, hq17, hf⟩ := obE hf
          refine ct_cSi (rest := []) (tX9_in hD hq17) hx hb hml hown ht hX hP hS wX9_in kML_RX9_172 rfl rfl ⟨Nat.le_of_ble_eq_true rfl, Nat.le_of_ble_eq_true rfl⟩ rfl hl.1 rfl (Nat.le_of_ble_eq_true rfl) dX9_audit_118 (fun H locs hP hS => ?_)
          refine lv_if_eq (tgt := 128) hx hb dX9_audit_121 (by decide) (fun hc18 => ?_) (fun hc18 => ?_)
          · rw [if_pos hc18] at hf
            exact blk128 _ _ order numof above pile x2 x3 x4 (order x4.toNatClampNeg) q10 ls hP hS (lv_sub hl [2, 3, 4, 5, 1, 0] rfl) hf
          · rw [if_neg hc18] at hf
            refine lv_iconst (v := (1 : Int32)) hx hb dX9_audit_124 (by decide) ?_
            refine lv_goto (tgt := 129) hx hb dX9_audit_125 (by decide) ?_
            exact blk129 _ _ order numof above pile x2 x3 x4 (order x4.toNatClampNeg) q10 (1 : Int32) ls hP hS (lv_sub hl [2, 3, 4, 5, 1, 0] rfl) hf
  unfold fX9_audit at hf
  refine lv_aload_n hx hb dX9_audit_0 rfl (lv_at hl 0 rfl) ?_
  refine lv_iload_n hx hb dX9_audit_1 rfl (lv_at hl 1 rfl) ?_
  obtain ⟨q1, hq1, hf⟩ := obE hf
  refine ct_cVi (rest := []) (tX9_isNode hD hq1) hx hb hml hown ht hX hP hS wX9_isNode kML_RX9_176 rfl rfl ⟨Nat.le_of_ble_eq_true rfl, Nat.le_of_ble_eq_true rfl⟩ (va_recv hX.1 hP rfl mw_obj) rfl hl.1 rfl (Nat.le_of_ble_eq_true rfl) dX9_audit_2 (fun H locs hP hS => ?_)
  refine lv_if_ne (tgt := 11) hx hb dX9_audit_5 (by decide) (fun hc2 => ?_) (fun hc2 => ?_)
  · rw [if_neg hc2] at hf
    refine lv_iload_n hx hb dX9_audit_11 rfl (lv_at hl 2 rfl) ?_
    refine lv_i2l (v := x2.toInt64) hx hb dX9_audit_12 rfl ?_
    refine lv_ldc2 hx hb hown (ht _ kKJ_RX9_242) dX9_audit_13 ?_
    refine lv_ldc2 hx hb hown (ht _ kKJ_RX9_209) dX9_audit_16 ?_
    obtain ⟨q3, hq3, hf⟩ := obE hf
    refine ct_cSi (rest := []) (tX9_in hD hq3) hx hb hml hown ht hX hP hS wX9_in kML_RX9_172 rfl rfl ⟨Nat.le_of_ble_eq_true rfl, Nat.le_of_ble_eq_true rfl⟩ rfl hl.1 rfl (Nat.le_of_ble_eq_true rfl) dX9_audit_19 (fun H locs hP hS => ?_)
    refine lv_if_ne (tgt := 28) hx hb dX9_audit_22 (by decide) (fun hc4 => ?_) (fun hc4 => ?_)
    · rw [if_neg hc4] at hf
      refine lv_aload_n hx hb dX9_audit_28 rfl (lv_at hl 0 rfl) ?_
      obtain ⟨q5, hq5, hf⟩ := obE hf
      refine ct_cVv (rest := []) (tX9_numbers hD hq5) hx hb hml hown ht hX hP hS wX9_numbers kML_RX9_131 rfl rfl ⟨Nat.le_of_ble_eq_true rfl, Nat.le_of_ble_eq_true rfl⟩ (va_recv hX.1 hP rfl mw_obj) rfl hl.1 rfl (Nat.le_of_ble_eq_true rfl) dX9_audit_29 (fun H locs hP hS => ?_)
      refine lv_aload_n hx hb dX9_audit_32 rfl (lv_at hl 0 rfl) ?_
      refine va_get (ci := 7) (v := .ref (ad 6)) hx hb ht i_X9 hown hX.1 hP 0 mw_obj rfl 7 (by decide) (ht _ kFL_RX9_26) (fun _ h9 => h9) rfl dX9_audit_33 ?_
      refine lv_iload_n hx hb dX9_audit_36 rfl (lv_at hl 1 rfl) ?_
      obtain ⟨hn6, hf⟩ := ngE _ hf
      refine va_iald hx hb hX.1 hP 6 0 mw_order rfl hn6 dX9_audit_37 ?_
      refine lv_istore_n (lv' := [(3, .int (q5.1 x1.toNatClampNeg)), (0, .ref (ad 0)), (1, .int x1), (2, .int x2)]) hx hb dX9_audit_38 rfl hl (by decide) rfl (fun ls hl => ?_)
      refine lv_iconst (v := (0 : Int32)) hx hb dX9_audit_39 (by decide) ?_
      refine lv_istore (lv' := [(4, .int ((0 : Int32))), (3, .int (q5.1 x1.toNatClampNeg)), (0, .ref (ad 0)), (1, .int x1), (2, .int x2)]) hx hb dX9_audit_40 hl (by decide) rfl (fun ls hl => ?_)
      exact blk42 F _ _ q5.1 q5.2.1 q5.2.2.1 q5.2.2.2 x2 (q5.1 x1.toNatClampNeg) (0 : Int32) ls hP hS (lv_sub hl [2, 4, 1, 0] rfl) hf
    · rw [if_pos hc4] at hf
      refine lv_ldc hx hb hown (ht _ kKI_RX9_171) dX9_audit_25 ?_
      have e0 := Option.some.inj hf
      subst e0
      exact hret _ _ _ _ hP hS dX9_audit_27
  · rw [if_pos hc2] at hf
    refine lv_ldc hx hb hown (ht _ kKI_RX9_179) dX9_audit_8 ?_
    have e0 := Option.some.inj hf
    subst e0
    exact hret _ _ _ _ hP hS dX9_audit_10
def fX9_seed (F : Nat) (sd : Int32) (x1 : Int32) : Option (Int32 × Int32) := if 0 ≤ x1 then (some (sd, x1)) else (some ((-1000000002 : Int32), sd))
abbrev rX9_seed : Room := { frames := 0, cells := 0, slots := 0, locals := 0 }
theorem wX9_seed : kV yX9_seed cX9_seed 3 (some .int) 1 := ⟨kCO_yX9_seed, kIM_yX9_seed, kSE_yX9_seed, kIN_RX9, by decide +kernel, by decide +kernel, by decide +kernel⟩
set_option maxHeartbeats 4000000 in
set_option maxRecDepth 100000 in
theorem tX9_seed {l : Launch} {D : va_G} {cI cZ : ClassId} {ad : Nat → Nat} (hD : gInj 15 ad) {F : Nat} {un sd : Int32} {now past images iseed kept order numof above pile aside fewest deep keys worths : Nat → Int32} {x1 : Int32} {res : Int32 × Int32} (hf : fX9_seed F sd x1 = some res) : CTi l yX9_seed cX9_seed 3 .int rX9_seed D (mTy cI cZ) (gA 15 ad) [.ref (ad 0), .int x1] (mw cI cZ ad un sd now past images iseed kept order numof above pile aside fewest deep keys worths) res.1 (mw cI cZ ad un res.2 now past images iseed kept order numof above pile aside fewest deep keys worths) := by
  refine ct_int (by decide) (Nat.le_of_ble_eq_true rfl) ?_
  intro p e s m args below meth c Q ls hx hb hml hown ht hX hret hP hS hl
  have hl : lv_has ls 3 [(0, .ref (ad 0)), (1, .int x1)] := hl
  unfold fX9_seed at hf
  refine lv_iload_n hx hb dX9_seed_0 rfl (lv_at hl 1 rfl) ?_
  refine lv_if_ge (tgt := 7) hx hb dX9_seed_1 (by decide) (fun hc1 => ?_) (fun hc1 => ?_)
  · rw [if_pos hc1] at hf
    refine lv_aload_n hx hb dX9_seed_7 rfl (lv_at hl 0 rfl) ?_
    refine va_get (ci := 7) (v := .int sd) hx hb ht i_X9 hown hX.1 hP 0 mw_obj rfl 6 (by decide) (ht _ kFL_RX9_218) (fun _ h9 => h9) rfl dX9_seed_8 ?_
    refine lv_istore_n (lv' := [(2, .int sd), (0, .ref (ad 0)), (1, .int x1)]) hx hb dX9_seed_11 rfl hl (by decide) rfl (fun ls hl => ?_)
    refine lv_aload_n hx hb dX9_seed_12 rfl (lv_at hl 1 rfl) ?_
    refine lv_iload_n hx hb dX9_seed_13 rfl (lv_at hl 2 rfl) ?_
    refine mr_putSd hD hx hb ht hown hX hP hS kFL_RX9_218 dX9_seed_14 (fun H locs hP hS => ?_)
    refine lv_iload_n hx hb dX9_seed_17 rfl (lv_at hl 0 rfl) ?_
    have e0 := Option.some.inj hf
    subst e0
    exact hret _ _ _ _ hP hS dX9_seed_18
  · rw [if_neg hc1] at hf
    refine lv_ldc hx hb hown (ht _ kKI_RX9_171) dX9_seed_4 ?_
    have e0 := Option.some.inj hf
    subst e0
    exact hret _ _ _ _ hP hS dX9_seed_6
def fX9_keep_15 (F : Nat) (sd : Int32) (now : Nat → Int32) : Nat → Int32 → (Nat → Int32) → (Nat → Int32) → (Nat → Int32) → Int32 → Int32 → Option (Int32 × Int32 × (Nat → Int32) × (Nat → Int32) × (Nat → Int32))
  | 0, _, _, _, _, _, _ => none
  | n + 1, un, images, iseed, kept, x1, x2 => if (368 : Int32) ≤ x2 then (if x1 < 0 ∨ 2 ≤ x1.toNatClampNeg then none else (if x1 < 0 ∨ 2 ≤ x1.toNatClampNeg then none else (some ((1 : Int32), (0 : Int32), images, upd iseed x1.toNatClampNeg sd, upd kept x1.toNatClampNeg (vp_nar .boolean (1 : Int32)))))) else (if x2 < 0 ∨ 368 ≤ x2.toNatClampNeg then none else (if (((368 : Int32) * x1) + x2) < 0 ∨ 736 ≤ (((368 : Int32) * x1) + x2).toNatClampNeg then none else (fX9_keep_15 F sd now n un (upd images (((368 : Int32) * x1) + x2).toNatClampNeg (now x2.toNatClampNeg)) iseed kept x1 (x2 + (1 : Int32)))))
def fX9_keep (F : Nat) (un : Int32) (sd : Int32) (now : Nat → Int32) (images : Nat → Int32) (iseed : Nat → Int32) (kept : Nat → Int32) (x1 : Int32) : Option (Int32 × Int32 × (Nat → Int32) × (Nat → Int32) × (Nat → Int32)) := (fX9_in F x1.toInt64 (0 : Int64) (1 : Int64)).bind fun q1 => (if q1 = 0 then (some ((-1000000001 : Int32), un, images, iseed, kept)) else (fX9_keep_15 F sd now F un images iseed kept x1 (0 : Int32)))
abbrev rX9_keep : Room := { frames := 1, cells := 0, slots := 0, locals := 25 }
theorem wX9_keep : kV yX9_keep cX9_keep 3 (some .int) 1 := ⟨kCO_yX9_keep, kIM_yX9_keep, kSE_yX9_keep, kIN_RX9, by decide +kernel, by decide +kernel, by decide +kernel⟩
set_option maxHeartbeats 4000000 in
set_option maxRecDepth 100000 in
theorem tX9_keep {l : Launch} {D : va_G} {cI cZ : ClassId} {ad : Nat → Nat} (hD : gInj 15 ad) {F : Nat} {un sd : Int32} {now past images iseed kept order numof above pile aside fewest deep keys worths : Nat → Int32} {x1 : Int32} {res : Int32 × Int32 × (Nat → Int32) × (Nat → Int32) × (Nat → Int32)} (hf : fX9_keep F un sd now images iseed kept x1 = some res) : CTi l yX9_keep cX9_keep 3 .int rX9_keep D (mTy cI cZ) (gA 15 ad) [.ref (ad 0), .int x1] (mw cI cZ ad un sd now past images iseed kept order numof above pile aside fewest deep keys worths) res.1 (mw cI cZ ad res.2.1 sd now past res.2.2.1 res.2.2.2.1 res.2.2.2.2 order numof above pile aside fewest deep keys worths) := by
  refine ct_int (by decide) (Nat.le_of_ble_eq_true rfl) ?_
  intro p e s m args below meth c Q ls hx hb hml hown ht hX hret hP hS hl
  have hl : lv_has ls 3 [(0, .ref (ad 0)), (1, .int x1)] := hl
  have blk15 : ∀ (n15 : Nat) (H : Heap) (locs : List Loc) (un : Int32) (images : Nat → Int32) (iseed : Nat → Int32) (kept : Nat → Int32) (x1 : Int32) (x2 : Int32) (ls : Array Slot), va_P D vwCl (mw cI cZ ad un sd now past images iseed kept order numof above pile aside fewest deep keys worths) H → va_S (gA 15 ad) s.heap H locs → lv_has ls 3 [(0, .ref (ad 0)), (1, .int x1), (2, .int x2)] → fX9_keep_15 F sd now n15 un images iseed kept x1 x2 = some res → W p l e rX9_keep s m args below meth c H locs 0 0 Q (F0 m 15 ls []) := by
    intro n15
    induction n15 with
    | zero =>
      intro H locs un images iseed kept x1 x2 ls hP hS hl hf
      rw [fX9_keep_15] at hf
      cases hf
    | succ n15 ih15 =>
      skip
      intro H locs un images iseed kept x1 x2 ls hP hS hl hf
      rw [fX9_keep_15] at hf
      refine lv_iload_n hx hb dX9_keep_15 rfl (lv_at hl 2 rfl) ?_
      refine lv_sipush (v := (368 : Int32)) hx hb dX9_keep_16 (by decide) ?_
      refine lv_icmp_ge (tgt := 46) hx hb dX9_keep_19 (by decide) (fun hc3 => ?_) (fun hc3 => ?_)
      · rw [if_pos hc3] at hf
        refine lv_aload_n hx hb dX9_keep_46 rfl (lv_at hl 0 rfl) ?_
        refine va_get (ci := 7) (v := .ref (ad 4)) hx hb ht i_X9 hown hX.1 hP 0 mw_obj rfl 4 (by decide) (ht _ kFL_RX9_19) (fun _ h9 => h9) rfl dX9_keep_47 ?_
        refine lv_iload_n hx hb dX9_keep_50 rfl (lv_at hl 1 rfl) ?_
        refine lv_aload_n hx hb dX9_keep_51 rfl (lv_at hl 0 rfl) ?_
        refine va_get (ci := 7) (v := .int sd) hx hb ht i_X9 hown hX.1 hP 0 mw_obj rfl 6 (by decide) (ht _ kFL_RX9_218) (fun _ h9 => h9) rfl dX9_keep_52 ?_
        obtain ⟨hn4, hf⟩ := ngE _ hf
        refine va_iast hx hb hX.1 hP (gw_D hD _) hS 4 0 mw_iseed rfl hn4 dX9_keep_55 (fun H locs hP _ hS => ?_)
        rw [mw_set_iseed] at hP
        refine lv_aload_n hx hb dX9_keep_56 rfl (lv_at hl 0 rfl) ?_
        refine va_get (ci := 7) (v := .ref (ad 5)) hx hb ht i_X9 hown hX.1 hP 0 mw_obj rfl 5 (by decide) (ht _ kFL_RX9_22) (fun _ h9 => h9) rfl dX9_keep_57 ?_
        refine lv_iload_n hx hb dX9_keep_60 rfl (lv_at hl 1 rfl) ?_
        refine lv_iconst (v := (1 : Int32)) hx hb dX9_keep_61 (by decide) ?_
        obtain ⟨hn5, hf⟩ := ngE _ hf
        refine va_zast hx hb hX.1 hP (gw_D hD _) hS 5 1 mw_kept rfl hn5 dX9_keep_62 (fun H locs hP _ hS => ?_)
        rw [mw_set_kept] at hP
        refine lv_aload_n hx hb dX9_keep_63 rfl (lv_at hl 0 rfl) ?_
        refine lv_iconst (v := (0 : Int32)) hx hb dX9_keep_64 (by decide) ?_
        refine mr_putUn hD hx hb ht hown hX hP hS kFL_RX9_167 dX9_keep_65 (fun H locs hP hS => ?_)
        refine lv_iconst (v := (1 : Int32)) hx hb dX9_keep_68 (by decide) ?_
        have e0 := Option.some.inj hf
        subst e0
        exact hret _ _ _ _ hP hS dX9_keep_69
      · rw [if_neg hc3] at hf
        refine lv_aload_n hx hb dX9_keep_22 rfl (lv_at hl 0 rfl) ?_
        refine va_get (ci := 7) (v := .ref (ad 3)) hx hb ht i_X9 hown hX.1 hP 0 mw_obj rfl 3 (by decide) (ht _ kFL_RX9_16) (fun _ h9 => h9) rfl dX9_keep_23 ?_
        refine lv_sipush (v := (368 : Int32)) hx hb dX9_keep_26 (by decide) ?_
        refine lv_iload_n hx hb dX9_keep_29 rfl (lv_at hl 1 rfl) ?_
        refine lv_imul hx hb dX9_keep_30 ?_
        refine lv_iload_n hx hb dX9_keep_31 rfl (lv_at hl 2 rfl) ?_
        refine lv_iadd hx hb dX9_keep_32 ?_
        refine lv_aload_n hx hb dX9_keep_33 rfl (lv_at hl 0 rfl) ?_
        refine va_get (ci := 7) (v := .ref (ad 1)) hx hb ht i_X9 hown hX.1 hP 0 mw_obj rfl 0 (by decide) (ht _ kFL_RX9_7) (fun _ h9 => h9) rfl dX9_keep_34 ?_
        refine lv_iload_n hx hb dX9_keep_37 rfl (lv_at hl 2 rfl) ?_
        obtain ⟨hn6, hf⟩ := ngE _ hf
        refine va_iald hx hb hX.1 hP 1 0 mw_now rfl hn6 dX9_keep_38 ?_
        obtain ⟨hn7, hf⟩ := ngE _ hf
        refine va_iast hx hb hX.1 hP (gw_D hD _) hS 3 0 mw_images rfl hn7 dX9_keep_39 (fun H locs hP _ hS => ?_)
        rw [mw_set_images] at hP
        refine lv_iinc (v := x2 + (1 : Int32)) (lv' := [(2, .int (x2 + (1 : Int32))), (0, .ref (ad 0)), (1, .int x1)]) hx hb dX9_keep_40 hl (k := 2) rfl rfl (by decide) rfl (fun ls hl => ?_)
        refine lv_goto (tgt := 15) hx hb dX9_keep_43 (by decide) ?_
        exact ih15 _ _ un (upd images (((368 : Int32) * x1) + x2).toNatClampNeg (now x2.toNatClampNeg)) iseed kept x1 (x2 + (1 : Int32)) ls hP hS (lv_sub hl [1, 2, 0] rfl) hf
  unfold fX9_keep at hf
  refine lv_iload_n hx hb dX9_keep_0 rfl (lv_at hl 1 rfl) ?_
  refine lv_i2l (v := x1.toInt64) hx hb dX9_keep_1 rfl ?_
  refine lv_lconst (v := (0 : Int64)) hx hb dX9_keep_2 (by decide) ?_
  refine lv_lconst (v := (1 : Int64)) hx hb dX9_keep_3 (by decide) ?_
  obtain ⟨q1, hq1, hf⟩ := obE hf
  refine ct_cSi (rest := []) (tX9_in hD hq1) hx hb hml hown ht hX hP hS wX9_in kML_RX9_172 rfl rfl ⟨Nat.le_of_ble_eq_true rfl, Nat.le_of_ble_eq_true rfl⟩ rfl hl.1 rfl (Nat.le_of_ble_eq_true rfl) dX9_keep_4 (fun H locs hP hS => ?_)
  refine lv_if_ne (tgt := 13) hx hb dX9_keep_7 (by decide) (fun hc2 => ?_) (fun hc2 => ?_)
  · rw [if_neg hc2] at hf
    refine lv_iconst (v := (0 : Int32)) hx hb dX9_keep_13 (by decide) ?_
    refine lv_istore_n (lv' := [(2, .int ((0 : Int32))), (0, .ref (ad 0)), (1, .int x1)]) hx hb dX9_keep_14 rfl hl (by decide) rfl (fun ls hl => ?_)
    exact blk15 F _ _ un images iseed kept x1 (0 : Int32) ls hP hS (lv_sub hl [1, 2, 0] rfl) hf
  · rw [if_pos hc2] at hf
    refine lv_ldc hx hb hown (ht _ kKI_RX9_179) dX9_keep_10 ?_
    have e0 := Option.some.inj hf
    subst e0
    exact hret _ _ _ _ hP hS dX9_keep_12
def fX9_goBack_27 (F : Nat) (images : Nat → Int32) (iseed : Nat → Int32) (kept : Nat → Int32) : Nat → Int32 → Int32 → (Nat → Int32) → Int32 → Int32 → Option (Int32 × Int32 × Int32 × (Nat → Int32))
  | 0, _, _, _, _, _ => none
  | n + 1, un, sd, now, x1, x2 => if (368 : Int32) ≤ x2 then (if x1 < 0 ∨ 2 ≤ x1.toNatClampNeg then none else (some ((1 : Int32), (0 : Int32), iseed x1.toNatClampNeg, now))) else (if (((368 : Int32) * x1) + x2) < 0 ∨ 736 ≤ (((368 : Int32) * x1) + x2).toNatClampNeg then none else (if x2 < 0 ∨ 368 ≤ x2.toNatClampNeg then none else (fX9_goBack_27 F images iseed kept n un sd (upd now x2.toNatClampNeg (images (((368 : Int32) * x1) + x2).toNatClampNeg)) x1 (x2 + (1 : Int32)))))
def fX9_goBack (F : Nat) (un : Int32) (sd : Int32) (now : Nat → Int32) (images : Nat → Int32) (iseed : Nat → Int32) (kept : Nat → Int32) (x1 : Int32) : Option (Int32 × Int32 × Int32 × (Nat → Int32)) := (fX9_in F x1.toInt64 (0 : Int64) (1 : Int64)).bind fun q1 => (if q1 = 0 then (some ((-1000000001 : Int32), un, sd, now)) else (if x1 < 0 ∨ 2 ≤ x1.toNatClampNeg then none else (if (kept x1.toNatClampNeg) = 0 then (some ((-1000000003 : Int32), un, sd, now)) else (fX9_goBack_27 F images iseed kept F un sd now x1 (0 : Int32)))))
abbrev rX9_goBack : Room := { frames := 1, cells := 0, slots := 0, locals := 25 }
theorem wX9_goBack : kV yX9_goBack cX9_goBack 3 (some .int) 1 := ⟨kCO_yX9_goBack, kIM_yX9_goBack, kSE_yX9_goBack, kIN_RX9, by decide +kernel, by decide +kernel, by decide +kernel⟩
set_option maxHeartbeats 4000000 in
set_option maxRecDepth 100000 in
theorem tX9_goBack {l : Launch} {D : va_G} {cI cZ : ClassId} {ad : Nat → Nat} (hD : gInj 15 ad) {F : Nat} {un sd : Int32} {now past images iseed kept order numof above pile aside fewest deep keys worths : Nat → Int32} {x1 : Int32} {res : Int32 × Int32 × Int32 × (Nat → Int32)} (hf : fX9_goBack F un sd now images iseed kept x1 = some res) : CTi l yX9_goBack cX9_goBack 3 .int rX9_goBack D (mTy cI cZ) (gA 15 ad) [.ref (ad 0), .int x1] (mw cI cZ ad un sd now past images iseed kept order numof above pile aside fewest deep keys worths) res.1 (mw cI cZ ad res.2.1 res.2.2.1 res.2.2.2 past images iseed kept order numof above pile aside fewest deep keys worths) := by
  refine ct_int (by decide) (Nat.le_of_ble_eq_true rfl) ?_
  intro p e s m args below meth c Q ls hx hb hml hown ht hX hret hP hS hl
  have hl : lv_has ls 3 [(0, .ref (ad 0)), (1, .int x1)] := hl
  have blk27 : ∀ (n27 : Nat) (H : Heap) (locs : List Loc) (un : Int32) (sd : Int32) (now : Nat → Int32) (x1 : Int32) (x2 : Int32) (ls : Array Slot), va_P D vwCl (mw cI cZ ad un sd now past images iseed kept order numof above pile aside fewest deep keys worths) H → va_S (gA 15 ad) s.heap H locs → lv_has ls 3 [(0, .ref (ad 0)), (1, .int x1), (2, .int x2)] → fX9_goBack_27 F images iseed kept n27 un sd now x1 x2 = some res → W p l e rX9_goBack s m args below meth c H locs 0 0 Q (F0 m 27 ls []) := by
    intro n27
    induction n27 with
    | zero =>
      intro H locs un sd now x1 x2 ls hP hS hl hf
      rw [fX9_goBack_27] at hf
      cases hf
    | succ n27 ih27 =>
      skip
      intro H locs un sd now x1 x2 ls hP hS hl hf
      rw [fX9_goBack_27] at hf
      refine lv_iload_n hx hb dX9_goBack_27 rfl (lv_at hl 2 rfl) ?_
      refine lv_sipush (v := (368 : Int32)) hx hb dX9_goBack_28 (by decide) ?_
      refine lv_icmp_ge (tgt := 58) hx hb dX9_goBack_31 (by decide) (fun hc5 => ?_) (fun hc5 => ?_)
      · rw [if_pos hc5] at hf
        refine lv_aload_n hx hb dX9_goBack_58 rfl (lv_at hl 0 rfl) ?_
        refine lv_aload_n hx hb dX9_goBack_59 rfl (lv_at hl 0 rfl) ?_
        refine va_get (ci := 7) (v := .ref (ad 4)) hx hb ht i_X9 hown hX.1 hP 0 mw_obj rfl 4 (by decide) (ht _ kFL_RX9_19) (fun _ h9 => h9) rfl dX9_goBack_60 ?_
        refine lv_iload_n hx hb dX9_goBack_63 rfl (lv_at hl 1 rfl) ?_
        obtain ⟨hn6, hf⟩ := ngE _ hf
        refine va_iald hx hb hX.1 hP 4 0 mw_iseed rfl hn6 dX9_goBack_64 ?_
        refine mr_putSd hD hx hb ht hown hX hP hS kFL_RX9_218 dX9_goBack_65 (fun H locs hP hS => ?_)
        refine lv_aload_n hx hb dX9_goBack_68 rfl (lv_at hl 0 rfl) ?_
        refine lv_iconst (v := (0 : Int32)) hx hb dX9_goBack_69 (by decide) ?_
        refine mr_putUn hD hx hb ht hown hX hP hS kFL_RX9_167 dX9_goBack_70 (fun H locs hP hS => ?_)
        refine lv_iconst (v := (1 : Int32)) hx hb dX9_goBack_73 (by decide) ?_
        have e0 := Option.some.inj hf
        subst e0
        exact hret _ _ _ _ hP hS dX9_goBack_74
      · rw [if_neg hc5] at hf
        refine lv_aload_n hx hb dX9_goBack_34 rfl (lv_at hl 0 rfl) ?_
        refine va_get (ci := 7) (v := .ref (ad 1)) hx hb ht i_X9 hown hX.1 hP 0 mw_obj rfl 0 (by decide) (ht _ kFL_RX9_7) (fun _ h9 => h9) rfl dX9_goBack_35 ?_
        refine lv_iload_n hx hb dX9_goBack_38 rfl (lv_at hl 2 rfl) ?_
        refine lv_aload_n hx hb dX9_goBack_39 rfl (lv_at hl 0 rfl) ?_
        refine va_get (ci := 7) (v := .ref (ad 3)) hx hb ht i_X9 hown hX.1 hP 0 mw_obj rfl 3 (by decide) (ht _ kFL_RX9_16) (fun _ h9 => h9) rfl dX9_goBack_40 ?_
        refine lv_sipush (v := (368 : Int32)) hx hb dX9_goBack_43 (by decide) ?_
        refine lv_iload_n hx hb dX9_goBack_46 rfl (lv_at hl 1 rfl) ?_
        refine lv_imul hx hb dX9_goBack_47 ?_
        refine lv_iload_n hx hb dX9_goBack_48 rfl (lv_at hl 2 rfl) ?_
        refine lv_iadd hx hb dX9_goBack_49 ?_
        obtain ⟨hn7, hf⟩ := ngE _ hf
        refine va_iald hx hb hX.1 hP 3 0 mw_images rfl hn7 dX9_goBack_50 ?_
        obtain ⟨hn8, hf⟩ := ngE _ hf
        refine va_iast hx hb hX.1 hP (gw_D hD _) hS 1 0 mw_now rfl hn8 dX9_goBack_51 (fun H locs hP _ hS => ?_)
        rw [mw_set_now] at hP
        refine lv_iinc (v := x2 + (1 : Int32)) (lv' := [(2, .int (x2 + (1 : Int32))), (0, .ref (ad 0)), (1, .int x1)]) hx hb dX9_goBack_52 hl (k := 2) rfl rfl (by decide) rfl (fun ls hl => ?_)
        refine lv_goto (tgt := 27) hx hb dX9_goBack_55 (by decide) ?_
        exact ih27 _ _ un sd (upd now x2.toNatClampNeg (images (((368 : Int32) * x1) + x2).toNatClampNeg)) x1 (x2 + (1 : Int32)) ls hP hS (lv_sub hl [1, 2, 0] rfl) hf
  unfold fX9_goBack at hf
  refine lv_iload_n hx hb dX9_goBack_0 rfl (lv_at hl 1 rfl) ?_
  refine lv_i2l (v := x1.toInt64) hx hb dX9_goBack_1 rfl ?_
  refine lv_lconst (v := (0 : Int64)) hx hb dX9_goBack_2 (by decide) ?_
  refine lv_lconst (v := (1 : Int64)) hx hb dX9_goBack_3 (by decide) ?_
  obtain ⟨q1, hq1, hf⟩ := obE hf
  refine ct_cSi (rest := []) (tX9_in hD hq1) hx hb hml hown ht hX hP hS wX9_in kML_RX9_172 rfl rfl ⟨Nat.le_of_ble_eq_true rfl, Nat.le_of_ble_eq_true rfl⟩ rfl hl.1 rfl (Nat.le_of_ble_eq_true rfl) dX9_goBack_4 (fun H locs hP hS => ?_)
  refine lv_if_ne (tgt := 13) hx hb dX9_goBack_7 (by decide) (fun hc2 => ?_) (fun hc2 => ?_)
  · rw [if_neg hc2] at hf
    refine lv_aload_n hx hb dX9_goBack_13 rfl (lv_at hl 0 rfl) ?_
    refine va_get (ci := 7) (v := .ref (ad 5)) hx hb ht i_X9 hown hX.1 hP 0 mw_obj rfl 5 (by decide) (ht _ kFL_RX9_22) (fun _ h9 => h9) rfl dX9_goBack_14 ?_
    refine lv_iload_n hx hb dX9_goBack_17 rfl (lv_at hl 1 rfl) ?_
    obtain ⟨hn3, hf⟩ := ngE _ hf
    refine va_zald hx hb hX.1 hP 5 1 mw_kept rfl hn3 dX9_goBack_18 ?_
    refine lv_if_ne (tgt := 25) hx hb dX9_goBack_19 (by decide) (fun hc4 => ?_) (fun hc4 => ?_)
    · rw [if_neg hc4] at hf
      refine lv_iconst (v := (0 : Int32)) hx hb dX9_goBack_25 (by decide) ?_
      refine lv_istore_n (lv' := [(2, .int ((0 : Int32))), (0, .ref (ad 0)), (1, .int x1)]) hx hb dX9_goBack_26 rfl hl (by decide) rfl (fun ls hl => ?_)
      exact blk27 F _ _ un sd now x1 (0 : Int32) ls hP hS (lv_sub hl [1, 2, 0] rfl) hf
    · rw [if_pos hc4] at hf
      refine lv_ldc hx hb hown (ht _ kKI_RX9_199) dX9_goBack_22 ?_
      have e0 := Option.some.inj hf
      subst e0
      exact hret _ _ _ _ hP hS dX9_goBack_24
  · rw [if_pos hc2] at hf
    refine lv_ldc hx hb hown (ht _ kKI_RX9_179) dX9_goBack_10 ?_
    have e0 := Option.some.inj hf
    subst e0
    exact hret _ _ _ _ hP hS dX9_goBack_12
