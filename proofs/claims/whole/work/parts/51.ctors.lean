/-! ===== the constructors of the component: Counts, Draws, Nodes, Tree, Image ===== -/
theorem ra_uniq {U : State} {c1 c2 : ClassId} {ty : FieldType} (h1 : va_RA U c1 ty) (h2 : va_RA U c2 ty) : c1 = c2 := by
  cases ty with
  | object C =>
    obtain ⟨_, _, _, _, _, a⟩ := h1
    obtain ⟨_, _, _, _, _, b⟩ := h2
    exact Option.some.inj (a.symm.trans b)
  | _ => exact Option.some.inj (Eq.trans (Eq.symm h1) h2)
section MAKE2
variable {p : Program} {l : Launch} {e : Env} {R : Room} {s : State} {m : MethodId} {args : Array Value} {below : List Frame} {meth : Method} {c : Code} {H : Heap} {locs : List Loc} {Q : State → Prop} {cells slots : Nat}
  {cc : ByteArray} {rest : List Value} {D : va_G} {tys : List (ClassId × FieldType)} {A : Nat → Prop} {ws : va_W} {pc : Nat} {ls : Array Slot} {H0 : Heap}
theorem mk_ints {t0 : Nat} {cI : ClassId} (ht0 : tys[t0]? = some (cI, .int)) (hx : p.tables.exec = Jvm.exec) (hb : c.code = cc) (ht : ∀ w ∈ kt, w.before args s = true) (hK : va_K D vwCl tys s) (hP : va_P D vwCl ws H) (hD : va_D A ws) (hS : va_S A H0 H locs) (hA : ∀ q : Nat, H0.size ≤ q → A q) {N : Nat} {n : Int32} (hn : ¬ n < 0) (hN : n.toNatClampNeg = N) (hby : N * 4 ≤ 536870912) (hcells : cells + 1 ≤ R.cells) (hslots : slots + N ≤ R.slots) (hdg : decode cc pc = .ok (.newarray .int, 2))
    (kk : ∀ (q : Nat) (H1 : Heap), va_P D vwCl (ws ++ [(q, .inl (cI, N, .inl (fun _ => 0)))]) H1 → va_D A (ws ++ [(q, .inl (cI, N, .inl (fun _ => 0)))]) → va_S A H0 H1 locs → W p l e R s m args below meth c H1 locs (cells + 1) (slots + N) Q (F0 m (pc + 2) ls (.ref q :: rest))) : W p l e R s m args below meth c H locs cells slots Q (F0 m pc ls (.int n :: rest)) := by
  refine va_newa (atype := .int) hx hb (ht _ kAC_66) (ty := .int) rfl hK hP hD hS hA (a0 := (N, .inl (fun _ => 0))) (fun _ => rfl) hn hN hby hcells hslots hdg (fun q cA H1 hK1 hP1 hD1 hS1 => ?_)
  have e : cA = cI := ra_uniq (hK1.2 tys.length (cA, .int) (by simp)).2 (hK.2 t0 _ ht0).2
  subst e
  exact kk q H1 hP1 hD1 hS1
theorem mk_bools {t0 : Nat} {cZ : ClassId} (ht0 : tys[t0]? = some (cZ, .boolean)) (hx : p.tables.exec = Jvm.exec) (hb : c.code = cc) (ht : ∀ w ∈ kt, w.before args s = true) (hK : va_K D vwCl tys s) (hP : va_P D vwCl ws H) (hD : va_D A ws) (hS : va_S A H0 H locs) (hA : ∀ q : Nat, H0.size ≤ q → A q) {N : Nat} {n : Int32} (hn : ¬ n < 0) (hN : n.toNatClampNeg = N) (hby : N * 1 ≤ 536870912) (hcells : cells + 1 ≤ R.cells) (hslots : slots + N ≤ R.slots) (hdg : decode cc pc = .ok (.newarray .boolean, 2))
    (kk : ∀ (q : Nat) (H1 : Heap), va_P D vwCl (ws ++ [(q, .inl (cZ, N, .inl (fun _ => 0)))]) H1 → va_D A (ws ++ [(q, .inl (cZ, N, .inl (fun _ => 0)))]) → va_S A H0 H1 locs → W p l e R s m args below meth c H1 locs (cells + 1) (slots + N) Q (F0 m (pc + 2) ls (.ref q :: rest))) : W p l e R s m args below meth c H locs cells slots Q (F0 m pc ls (.int n :: rest)) := by
  refine va_newa (atype := .boolean) hx hb (ht _ kAC_649) (ty := .boolean) rfl hK hP hD hS hA (a0 := (N, .inl (fun _ => 0))) (fun _ => rfl) hn hN hby hcells hslots hdg (fun q cA H1 hK1 hP1 hD1 hS1 => ?_)
  have e : cA = cZ := ra_uniq (hK1.2 tys.length (cA, .boolean) (by simp)).2 (hK.2 t0 _ ht0).2
  subst e
  exact kk q H1 hP1 hD1 hS1
theorem mk_refs {t0 index : Nat} {cT : ClassId} {own C : String} (ht0 : tys[t0]? = some (cT, .object C)) (hx : p.tables.exec = Jvm.exec) (hb : c.code = cc) (hown : s.vm.findClass own = some m.cls) (ht : ∀ w ∈ kt, w.before args s = true) (hcl : Cond.classLink own index C ∈ kt) (hO : va_AO C s) (hK : va_K D vwCl tys s) (hP : va_P D vwCl ws H) (hD : va_D A ws) (hS : va_S A H0 H locs) (hA : ∀ q : Nat, H0.size ≤ q → A q) {N : Nat} {n : Int32} (hn : ¬ n < 0) (hN : n.toNatClampNeg = N) (hby : N * 4 ≤ 536870912) (hcells : cells + 1 ≤ R.cells) (hslots : slots + N ≤ R.slots) (hdg : decode cc pc = .ok (.anewarray index, 3))
    (kk : ∀ (q : Nat) (H1 : Heap), va_P D vwCl (ws ++ [(q, .inl (cT, N, .inr (.inr (.inr (.inr (fun _ => none))))))]) H1 → va_D A (ws ++ [(q, .inl (cT, N, .inr (.inr (.inr (.inr (fun _ => none))))))]) → va_S A H0 H1 locs → W p l e R s m args below meth c H1 locs (cells + 1) (slots + N) Q (F0 m (pc + 3) ls (.ref q :: rest))) : W p l e R s m args below meth c H locs cells slots Q (F0 m pc ls (.int n :: rest)) := by
  refine va_newq hx hb hown (ht _ hcl) hO hK hP hD hS hA hn hN hby hcells hslots hdg (fun q cA H1 hK1 hP1 hD1 hS1 => ?_)
  have e : cA = cT := ra_uniq (hK1.2 tys.length (cA, .object C) (by simp)).2 (hK.2 t0 _ ht0).2
  subst e
  exact kk q H1 hP1 hD1 hS1
/-- a static call over one cell of many, which it fills -/
theorem mk_fill {y : MethodName} {bytes : ByteArray} {maxL nL n index p0 a : Nat} {rm : Room} {own : String} {As st0 : List Value} {e1 e2 : va_E} (hM : CTv l y bytes maxL rm D tys (fun q => q = a) As [(a, e1)] [(a, e2)]) (hx : p.tables.exec = Jvm.exec) (hb : c.code = cc) (hml : c.maxLocals = nL) (hown : s.vm.findClass own = some m.cls) (ht : ∀ w ∈ kt, w.before args s = true) (hX : kX D tys s) (hP : va_P D vwCl ws H) (hD : va_D A ws) (hS : va_S A H0 H locs) (hp : ws[p0]? = some (a, e1))
    (hk : kF y bytes maxL none n) (hlk : Cond.methodLink own index y ∈ kt) (hc0 : rm.cells = 0) (hs0 : rm.slots = 0) (hR : rm.frames + 1 ≤ R.frames ∧ 8 + (maxL + 11) + rm.locals ≤ R.locals) (hcs : cells ≤ R.cells ∧ slots ≤ R.slots)
    (hn : As.length = n) (hsz : ls.size = nL) (hst : st0 = As.reverse ++ rest) (hW : (rest.map fun v => v.category).sum ≤ 8) (hdg : decode cc pc = .ok (.invokestatic index, 3))
    (kk : ∀ (H1 : Heap) (locs1 : List Loc), va_P D vwCl (ws.set p0 (a, e2)) H1 → va_D A (ws.set p0 (a, e2)) → va_S A H0 H1 locs1 → W p l e R s m args below meth c H1 locs1 cells slots Q (F0 m (pc + 3) ls rest)) : W p l e R s m args below meth c H locs cells slots Q (F0 m pc ls st0) := by
  obtain ⟨h1, h2, h4, h5⟩ := hk
  have hP0 : va_P D vwCl [(a, e1)] H := fun k q hq => by
    have hk : k = 0 := by
      have := (List.getElem?_eq_some_iff.mp hq).1
      simp at this; exact this
    subst hk
    obtain rfl : (a, e1) = q := Option.some.inj hq
    exact hP p0 _ hp
  have hpre := kPre_pre (av := As) hX hP0
  have hcw : CallB R s args own index y bytes maxL none (.code y bytes maxL none :: kt) rm 0 0 n ∧ (Cond.static y).before args s = true := ⟨callB_of n ht (kt_code h1) rfl hc0 hs0 (ht _ h4) (ht _ hlk) h5 hR, ht _ h2⟩
  have hAa : ∀ q, q = a → A q := fun q h => by rw [h]; exact hD.2 p0 _ hp
  refine va_callv (va_runS (As := As) (rest := rest) ⟨hx, hb, hml, hown, ht⟩ hM hcw ⟨hpre.1, hpre.2⟩ rfl hn hsz hst (lv_room hW) hdg ⟨hcs.1, hcs.2⟩) hS (fun q _ h => hAa q h) hAa (fun u t H1 locs1 hth hvm hw hB hz1 hk1 hS1 => ?_)
  rw [hth] at hB
  refine kk H1 locs1 (fun k q hq => ?_) (hD.set hp) hS1
  have hl := (List.getElem?_eq_some_iff.mp hp).1
  by_cases hkp : k = p0
  · subst hkp
    rw [List.getElem?_set_self hl] at hq
    obtain rfl := Option.some.inj hq
    exact hB 0 _ rfl
  · rw [List.getElem?_set_ne (fun h => hkp h.symm)] at hq
    refine (hP k q hq).kept (hk1 q.1 (hP k q hq).lt (fun e => hkp ?_))
    exact hD.1 k p0 q (a, e1) hq hp e
end MAKE2
def fl60 (f : Nat → Int32) (x : Int32) (i : Nat) : Nat → Int32 := fun k => if i ≤ k ∧ k < 60 then x else f k
theorem fl60_step {i : Nat} (h : i < 60) (f : Nat → Int32) (x : Int32) : fl60 (upd f i x) x (i + 1) = fl60 f x i := by
  funext k; unfold fl60 upd
  by_cases h1 : i + 1 ≤ k ∧ k < 60
  · rw [if_pos h1, if_pos (by omega)]
  · rw [if_neg h1]
    by_cases h2 : k = i
    · subst h2; rw [if_pos rfl, if_pos (by omega)]
    · rw [if_neg h2, if_neg (by omega)]
theorem fl60_end (f : Nat → Int32) (x : Int32) : fl60 f x 60 = f := by
  funext k; unfold fl60; rw [if_neg (by omega)]
set_option maxHeartbeats 4000000 in
theorem n_fill {l : Launch} {D : va_G} {cI cT cM : ClassId} {a : Nat} (f : Nat → Int32) (x1 : Int32) : CTv l yJ7_fill_53178 cJ7_fill_53178 4 rJ7_fill_53178 D (cTy cI cT cM) (fun q => q = a) [.ref a, .int x1] [(a, .inl (cI, 60, .inl f))] [(a, .inl (cI, 60, .inl (fl60 f x1 0)))] := by
  refine ct_void (by decide) (Nat.le_of_ble_eq_true rfl) ?_
  intro p e s m args below meth c Q ls hx hb hml hown ht hX hret hP hS hl
  have hl : lv_has ls 4 [(0, .ref a), (1, .int x1)] := hl
  have hDA : ∀ g : Nat → Int32, va_D (fun q => q = a) [(a, .inl (cI, 60, .inl g))] := fun g => ⟨fun i j p q hi hj _ => by
    have h1 := (List.getElem?_eq_some_iff.mp hi).1
    have h2 := (List.getElem?_eq_some_iff.mp hj).1
    simp at h1 h2; omega, fun k q hk => by
    have h1 : k = 0 := by
      have := (List.getElem?_eq_some_iff.mp hk).1
      simp at this; exact this
    subst h1
    obtain rfl := Option.some.inj hk
    rfl⟩
  have blk : ∀ (j i : Nat) (H : Heap) (locs : List Loc) (g : Nat → Int32) (ls : Array Slot), i + j = 60 → va_P D vwCl [(a, .inl (cI, 60, .inl g))] H → va_S (fun q => q = a) s.heap H locs → lv_has ls 4 [(0, .ref a), (1, .int x1), (2, .int (nI i)), (3, .int 60)] → fl60 g x1 i = fl60 f x1 0 → W p l e rJ7_fill_53178 s m args below meth c H locs 0 0 Q (F0 m 5 ls []) := by
    intro j
    induction j with
    | zero =>
      intro i H locs g ls hi hP hS hl hg
      obtain rfl : i = 60 := by omega
      refine lv_iload_n hx hb dJ7_fill_53178_5 rfl (lv_at hl 2 rfl) ?_
      refine lv_iload_n hx hb dJ7_fill_53178_6 rfl (lv_at hl 3 rfl) ?_
      refine lv_icmp_ge (tgt := 20) hx hb dJ7_fill_53178_7 (by decide) (fun hc1 => ?_) (fun hc1 => absurd (by decide) hc1)
      rw [fl60_end] at hg
      rw [hg] at hP
      exact hret _ _ _ _ hP hS dJ7_fill_53178_20
    | succ j ih =>
      intro i H locs g ls hi hP hS hl hg
      refine lv_iload_n hx hb dJ7_fill_53178_5 rfl (lv_at hl 2 rfl) ?_
      refine lv_iload_n hx hb dJ7_fill_53178_6 rfl (lv_at hl 3 rfl) ?_
      refine lv_icmp_ge (tgt := 20) hx hb dJ7_fill_53178_7 (by decide) (fun hc1 => absurd hc1 (n60le (by omega))) (fun hc1 => ?_)
      refine lv_aload_n hx hb dJ7_fill_53178_10 rfl (lv_at hl 0 rfl) ?_
      refine lv_iload_n hx hb dJ7_fill_53178_11 rfl (lv_at hl 2 rfl) ?_
      refine lv_iload_n hx hb dJ7_fill_53178_12 rfl (lv_at hl 1 rfl) ?_
      refine va_iast hx hb hX.1 hP (hDA g) hS 0 0 rfl rfl (nI_nin (by omega) (by omega)) dJ7_fill_53178_13 (fun H locs hP _ hS => ?_)
      refine lv_iinc (v := nI (i + 1)) (lv' := [(2, .int (nI (i + 1))), (0, .ref a), (1, .int x1), (3, .int 60)]) hx hb dJ7_fill_53178_14 hl (k := 2) rfl (nI_1 i) (by decide) rfl (fun ls hl => ?_)
      refine lv_goto (tgt := 5) hx hb dJ7_fill_53178_17 (by decide) ?_
      rw [nI_cl (by omega : i < 60)] at hP
      exact ih (i + 1) _ _ (upd g i x1) ls (by omega) hP hS (lv_sub hl [1, 2, 0, 3] rfl) (by rw [fl60_step (by omega)]; exact hg)
  refine lv_iconst (v := (0 : Int32)) hx hb dJ7_fill_53178_0 (by decide) ?_
  refine lv_istore_n (lv' := [(2, .int ((0 : Int32))), (0, .ref a), (1, .int x1)]) hx hb dJ7_fill_53178_1 rfl hl (by decide) rfl (fun ls hl => ?_)
  refine lv_aload_n hx hb dJ7_fill_53178_2 rfl (lv_at hl 1 rfl) ?_
  refine va_alen hx hb hX.1 hP 0 0 rfl rfl (v := (60 : Int32)) rfl dJ7_fill_53178_3 ?_
  refine lv_istore_n (lv' := [(3, .int ((60 : Int32))), (2, .int ((0 : Int32))), (0, .ref a), (1, .int x1)]) hx hb dJ7_fill_53178_4 rfl hl (by decide) rfl (fun ls hl => ?_)
  exact blk 60 0 _ _ f ls (by omega) hP hS (lv_sub hl [2, 3, 1, 0] rfl) rfl

abbrev rC1 : Room := { frames := 1, cells := 0, slots := 0, locals := 12 }
def cf1 : (Nat → Nat) → Nat → va_E := fun _ _ => .inr (0, [.int 0, .int 0, .int 0])
set_option maxHeartbeats 4000000 in
theorem nX1 {l : Launch} {D : va_G} {tys : List (ClassId × FieldType)} : CTk l yX1_init cX1_init 1 rC1 D tys (.inr (0, [.int 0, .int 0, .int 0])) 1 cf1 0 0 := by
  refine ct_ini (by decide) rfl (Nat.le_refl 1) ?_
  intro h0 p e s m args below meth c Q ls A hx hb hml hown ht hKN hin hA ret hP hD hS hl
  have hl : lv_has ls 1 [(0, .ref h0)] := hl
  refine lv_aload_n hx hb dX1_init_0 rfl (lv_at hl 0 rfl) ?_
  refine W.objInit hx hb hown (ht _ kML_RX1_1) (ht _ kIM_objectInit) (ht _ kCO_objectInit) rfl (by rw [hml]; exact hl.1) rfl dX1_init_1 (Nat.le_of_ble_eq_true rfl) (Nat.le_of_ble_eq_true rfl) ?_
  refine W.eq (g2 := F0 m 4 ls []) rfl ?_
  refine lv_aload_n hx hb dX1_init_4 rfl (lv_at hl 0 rfl) ?_
  refine lv_iconst (v := 0) hx hb dX1_init_5 (by decide) ?_
  refine va_put (D := D) (ci := 0) (v := .int 0) (ty := .int) (C := RX1) (T := TX1) (N := 3) hx hb ht i_X1 tyX1 tyX1_ok nmX1 hown hKN.1.1 hP hD hS 0 rfl rfl 0 (by decide) (ht _ kFL_RX1_7) (fun _ h9 => h9) rfl (by decide +kernel) rfl rfl (Nat.le_of_ble_eq_true rfl) dX1_init_6 (fun H locs hP hD hS => ?_)
  have hP : va_P D vwCl ([(h0, .inr (0, [.int 0, .int 0, .int 0]))]) H := hP
  have hD : va_D A ([(h0, .inr (0, [.int 0, .int 0, .int 0]))]) := hD
  refine lv_aload_n hx hb dX1_init_9 rfl (lv_at hl 0 rfl) ?_
  refine lv_iconst (v := 0) hx hb dX1_init_10 (by decide) ?_
  refine va_put (D := D) (ci := 0) (v := .int 0) (ty := .int) (C := RX1) (T := TX1) (N := 3) hx hb ht i_X1 tyX1 tyX1_ok nmX1 hown hKN.1.1 hP hD hS 0 rfl rfl 1 (by decide) (ht _ kFL_RX1_13) (fun _ h9 => h9) rfl (by decide +kernel) rfl rfl (Nat.le_of_ble_eq_true rfl) dX1_init_11 (fun H locs hP hD hS => ?_)
  have hP : va_P D vwCl ([(h0, .inr (0, [.int 0, .int 0, .int 0]))]) H := hP
  have hD : va_D A ([(h0, .inr (0, [.int 0, .int 0, .int 0]))]) := hD
  refine lv_aload_n hx hb dX1_init_14 rfl (lv_at hl 0 rfl) ?_
  refine lv_iconst (v := 0) hx hb dX1_init_15 (by decide) ?_
  refine va_put (D := D) (ci := 0) (v := .int 0) (ty := .int) (C := RX1) (T := TX1) (N := 3) hx hb ht i_X1 tyX1 tyX1_ok nmX1 hown hKN.1.1 hP hD hS 0 rfl rfl 2 (by decide) (ht _ kFL_RX1_16) (fun _ h9 => h9) rfl (by decide +kernel) rfl rfl (Nat.le_of_ble_eq_true rfl) dX1_init_16 (fun H locs hP hD hS => ?_)
  have hP : va_P D vwCl ([(h0, .inr (0, [.int 0, .int 0, .int 0]))]) H := hP
  have hD : va_D A ([(h0, .inr (0, [.int 0, .int 0, .int 0]))]) := hD
  exact ret _ _ _ _ (fun _ => h0) rfl hP hD hS dX1_init_19

def cf2 : (Nat → Nat) → Nat → va_E := fun _ _ => .inr (1, [.int 0])
set_option maxHeartbeats 4000000 in
theorem nX2 {l : Launch} {D : va_G} {tys : List (ClassId × FieldType)} : CTk l yX2_init cX2_init 1 rC1 D tys (.inr (1, [.int 0])) 1 cf2 0 0 := by
  refine ct_ini (by decide) rfl (Nat.le_refl 1) ?_
  intro h0 p e s m args below meth c Q ls A hx hb hml hown ht hKN hin hA ret hP hD hS hl
  have hl : lv_has ls 1 [(0, .ref h0)] := hl
  refine lv_aload_n hx hb dX2_init_0 rfl (lv_at hl 0 rfl) ?_
  refine W.objInit hx hb hown (ht _ kML_RX2_1) (ht _ kIM_objectInit) (ht _ kCO_objectInit) rfl (by rw [hml]; exact hl.1) rfl dX2_init_1 (Nat.le_of_ble_eq_true rfl) (Nat.le_of_ble_eq_true rfl) ?_
  refine W.eq (g2 := F0 m 4 ls []) rfl ?_
  refine lv_aload_n hx hb dX2_init_4 rfl (lv_at hl 0 rfl) ?_
  refine lv_iconst (v := 0) hx hb dX2_init_5 (by decide) ?_
  refine va_put (D := D) (ci := 1) (v := .int 0) (ty := .int) (C := RX2) (T := TX2) (N := 1) hx hb ht i_X2 tyX2 tyX2_ok nmX2 hown hKN.1.1 hP hD hS 0 rfl rfl 0 (by decide) (ht _ kFL_RX2_7) (fun _ h9 => h9) rfl (by decide +kernel) rfl rfl (Nat.le_of_ble_eq_true rfl) dX2_init_6 (fun H locs hP hD hS => ?_)
  have hP : va_P D vwCl ([(h0, .inr (1, [.int 0]))]) H := hP
  have hD : va_D A ([(h0, .inr (1, [.int 0]))]) := hD
  exact ret _ _ _ _ (fun _ => h0) rfl hP hD hS dX2_init_9

def ta0 : Nat → Nat → Int32
  | 0 => fl60 (fun _ => 0) (-1) 0
  | 6 => fun k => if k = 0 then -1 else 0
  | _ => fun _ => 0
abbrev rC4 : Room := { frames := 1, cells := 6, slots := 360, locals := 24 }
def cf4 (cI : ClassId) : (Nat → Nat) → Nat → va_E := fun q k => match k with
  | 0 => .inr (3, [.ref (q 1), .ref (q 2), .ref (q 3), .ref (q 4), .ref (q 5), .ref (q 6), .int (-1), .int 0])
  | 1 => .inl (cI, 60, .inl (ta0 0))
  | _ => .inl (cI, 60, .inl (fun _ => 0))
set_option maxHeartbeats 4000000 in
theorem nX4 {l : Launch} {D : va_G} {cI cT cM : ClassId} : CTk l yX4_init cX4_init 1 rC4 D (cTy cI cT cM) (.inr (3, [.null, .null, .null, .null, .null, .null, .int 0, .int 0])) 7 (cf4 cI) 6 360 := by
  refine ct_ini (by decide) rfl (Nat.le_refl 1) ?_
  intro h0 p e s m args below meth c Q ls A hx hb hml hown ht hKN hin hA ret hP hD hS hl
  have hl : lv_has ls 1 [(0, .ref h0)] := hl
  refine lv_aload_n hx hb dX4_init_0 rfl (lv_at hl 0 rfl) ?_
  refine W.objInit hx hb hown (ht _ kML_RX4_3) (ht _ kIM_objectInit) (ht _ kCO_objectInit) rfl (by rw [hml]; exact hl.1) rfl dX4_init_1 (Nat.le_of_ble_eq_true rfl) (Nat.le_of_ble_eq_true rfl) ?_
  refine W.eq (g2 := F0 m 4 ls []) rfl ?_
  refine lv_aload_n hx hb dX4_init_4 rfl (lv_at hl 0 rfl) ?_
  refine lv_bipush (v := (60 : Int32)) hx hb dX4_init_5 (by decide) ?_
  refine mk_ints (t0 := 0) (cI := cI) (N := 60) rfl hx hb ht hKN.1.1 hP hD hS hA (by decide) rfl (by decide) (by decide) (by decide) dX4_init_7 (fun r0 H hP hD hS => ?_)
  have hP : va_P D vwCl ([(h0, .inr (3, [.null, .null, .null, .null, .null, .null, .int 0, .int 0])), (r0, .inl (cI, 60, .inl (fun _ => 0)))]) H := hP
  have hD : va_D A ([(h0, .inr (3, [.null, .null, .null, .null, .null, .null, .int 0, .int 0])), (r0, .inl (cI, 60, .inl (fun _ => 0)))]) := hD
  refine va_putF (D := D) (ci := 3) (v := .ref r0) (ty := (.array .int)) (C := RX4) (T := TX4) (N := 8) hx hb ht i_X4 tyX4 tyX4_ok nmX4 hown hKN.1.1 hP hD hS 0 rfl rfl 0 (by decide) (ht _ kFL_RX4_9) (fun _ h9 => h9) rfl hin rfl (by decide +kernel) rfl rfl (Nat.le_of_ble_eq_true rfl) dX4_init_9 (fun H locs hP hD hS => ?_)
  have hP : va_P D vwCl ([(h0, .inr (3, [.ref r0, .null, .null, .null, .null, .null, .int 0, .int 0])), (r0, .inl (cI, 60, .inl (fun _ => 0)))]) H := hP
  have hD : va_D A ([(h0, .inr (3, [.ref r0, .null, .null, .null, .null, .null, .int 0, .int 0])), (r0, .inl (cI, 60, .inl (fun _ => 0)))]) := hD
  refine lv_aload_n hx hb dX4_init_12 rfl (lv_at hl 0 rfl) ?_
  refine lv_bipush (v := (60 : Int32)) hx hb dX4_init_13 (by decide) ?_
  refine mk_ints (t0 := 0) (cI := cI) (N := 60) rfl hx hb ht hKN.1.1 hP hD hS hA (by decide) rfl (by decide) (by decide) (by decide) dX4_init_15 (fun r1 H hP hD hS => ?_)
  have hP : va_P D vwCl ([(h0, .inr (3, [.ref r0, .null, .null, .null, .null, .null, .int 0, .int 0])), (r0, .inl (cI, 60, .inl (fun _ => 0))), (r1, .inl (cI, 60, .inl (fun _ => 0)))]) H := hP
  have hD : va_D A ([(h0, .inr (3, [.ref r0, .null, .null, .null, .null, .null, .int 0, .int 0])), (r0, .inl (cI, 60, .inl (fun _ => 0))), (r1, .inl (cI, 60, .inl (fun _ => 0)))]) := hD
  refine va_putF (D := D) (ci := 3) (v := .ref r1) (ty := (.array .int)) (C := RX4) (T := TX4) (N := 8) hx hb ht i_X4 tyX4 tyX4_ok nmX4 hown hKN.1.1 hP hD hS 0 rfl rfl 1 (by decide) (ht _ kFL_RX4_15) (fun _ h9 => h9) rfl hin rfl (by decide +kernel) rfl rfl (Nat.le_of_ble_eq_true rfl) dX4_init_17 (fun H locs hP hD hS => ?_)
  have hP : va_P D vwCl ([(h0, .inr (3, [.ref r0, .ref r1, .null, .null, .null, .null, .int 0, .int 0])), (r0, .inl (cI, 60, .inl (fun _ => 0))), (r1, .inl (cI, 60, .inl (fun _ => 0)))]) H := hP
  have hD : va_D A ([(h0, .inr (3, [.ref r0, .ref r1, .null, .null, .null, .null, .int 0, .int 0])), (r0, .inl (cI, 60, .inl (fun _ => 0))), (r1, .inl (cI, 60, .inl (fun _ => 0)))]) := hD
  refine lv_aload_n hx hb dX4_init_20 rfl (lv_at hl 0 rfl) ?_
  refine lv_bipush (v := (60 : Int32)) hx hb dX4_init_21 (by decide) ?_
  refine mk_ints (t0 := 0) (cI := cI) (N := 60) rfl hx hb ht hKN.1.1 hP hD hS hA (by decide) rfl (by decide) (by decide) (by decide) dX4_init_23 (fun r2 H hP hD hS => ?_)
  have hP : va_P D vwCl ([(h0, .inr (3, [.ref r0, .ref r1, .null, .null, .null, .null, .int 0, .int 0])), (r0, .inl (cI, 60, .inl (fun _ => 0))), (r1, .inl (cI, 60, .inl (fun _ => 0))), (r2, .inl (cI, 60, .inl (fun _ => 0)))]) H := hP
  have hD : va_D A ([(h0, .inr (3, [.ref r0, .ref r1, .null, .null, .null, .null, .int 0, .int 0])), (r0, .inl (cI, 60, .inl (fun _ => 0))), (r1, .inl (cI, 60, .inl (fun _ => 0))), (r2, .inl (cI, 60, .inl (fun _ => 0)))]) := hD
  refine va_putF (D := D) (ci := 3) (v := .ref r2) (ty := (.array .int)) (C := RX4) (T := TX4) (N := 8) hx hb ht i_X4 tyX4 tyX4_ok nmX4 hown hKN.1.1 hP hD hS 0 rfl rfl 2 (by decide) (ht _ kFL_RX4_18) (fun _ h9 => h9) rfl hin rfl (by decide +kernel) rfl rfl (Nat.le_of_ble_eq_true rfl) dX4_init_25 (fun H locs hP hD hS => ?_)
  have hP : va_P D vwCl ([(h0, .inr (3, [.ref r0, .ref r1, .ref r2, .null, .null, .null, .int 0, .int 0])), (r0, .inl (cI, 60, .inl (fun _ => 0))), (r1, .inl (cI, 60, .inl (fun _ => 0))), (r2, .inl (cI, 60, .inl (fun _ => 0)))]) H := hP
  have hD : va_D A ([(h0, .inr (3, [.ref r0, .ref r1, .ref r2, .null, .null, .null, .int 0, .int 0])), (r0, .inl (cI, 60, .inl (fun _ => 0))), (r1, .inl (cI, 60, .inl (fun _ => 0))), (r2, .inl (cI, 60, .inl (fun _ => 0)))]) := hD
  refine lv_aload_n hx hb dX4_init_28 rfl (lv_at hl 0 rfl) ?_
  refine lv_bipush (v := (60 : Int32)) hx hb dX4_init_29 (by decide) ?_
  refine mk_ints (t0 := 0) (cI := cI) (N := 60) rfl hx hb ht hKN.1.1 hP hD hS hA (by decide) rfl (by decide) (by decide) (by decide) dX4_init_31 (fun r3 H hP hD hS => ?_)
  have hP : va_P D vwCl ([(h0, .inr (3, [.ref r0, .ref r1, .ref r2, .null, .null, .null, .int 0, .int 0])), (r0, .inl (cI, 60, .inl (fun _ => 0))), (r1, .inl (cI, 60, .inl (fun _ => 0))), (r2, .inl (cI, 60, .inl (fun _ => 0))), (r3, .inl (cI, 60, .inl (fun _ => 0)))]) H := hP
  have hD : va_D A ([(h0, .inr (3, [.ref r0, .ref r1, .ref r2, .null, .null, .null, .int 0, .int 0])), (r0, .inl (cI, 60, .inl (fun _ => 0))), (r1, .inl (cI, 60, .inl (fun _ => 0))), (r2, .inl (cI, 60, .inl (fun _ => 0))), (r3, .inl (cI, 60, .inl (fun _ => 0)))]) := hD
  refine va_putF (D := D) (ci := 3) (v := .ref r3) (ty := (.array .int)) (C := RX4) (T := TX4) (N := 8) hx hb ht i_X4 tyX4 tyX4_ok nmX4 hown hKN.1.1 hP hD hS 0 rfl rfl 3 (by decide) (ht _ kFL_RX4_21) (fun _ h9 => h9) rfl hin rfl (by decide +kernel) rfl rfl (Nat.le_of_ble_eq_true rfl) dX4_init_33 (fun H locs hP hD hS => ?_)
  have hP : va_P D vwCl ([(h0, .inr (3, [.ref r0, .ref r1, .ref r2, .ref r3, .null, .null, .int 0, .int 0])), (r0, .inl (cI, 60, .inl (fun _ => 0))), (r1, .inl (cI, 60, .inl (fun _ => 0))), (r2, .inl (cI, 60, .inl (fun _ => 0))), (r3, .inl (cI, 60, .inl (fun _ => 0)))]) H := hP
  have hD : va_D A ([(h0, .inr (3, [.ref r0, .ref r1, .ref r2, .ref r3, .null, .null, .int 0, .int 0])), (r0, .inl (cI, 60, .inl (fun _ => 0))), (r1, .inl (cI, 60, .inl (fun _ => 0))), (r2, .inl (cI, 60, .inl (fun _ => 0))), (r3, .inl (cI, 60, .inl (fun _ => 0)))]) := hD
  refine lv_aload_n hx hb dX4_init_36 rfl (lv_at hl 0 rfl) ?_
  refine lv_bipush (v := (60 : Int32)) hx hb dX4_init_37 (by decide) ?_
  refine mk_ints (t0 := 0) (cI := cI) (N := 60) rfl hx hb ht hKN.1.1 hP hD hS hA (by decide) rfl (by decide) (by decide) (by decide) dX4_init_39 (fun r4 H hP hD hS => ?_)
  have hP : va_P D vwCl ([(h0, .inr (3, [.ref r0, .ref r1, .ref r2, .ref r3, .null, .null, .int 0, .int 0])), (r0, .inl (cI, 60, .inl (fun _ => 0))), (r1, .inl (cI, 60, .inl (fun _ => 0))), (r2, .inl (cI, 60, .inl (fun _ => 0))), (r3, .inl (cI, 60, .inl (fun _ => 0))), (r4, .inl (cI, 60, .inl (fun _ => 0)))]) H := hP
  have hD : va_D A ([(h0, .inr (3, [.ref r0, .ref r1, .ref r2, .ref r3, .null, .null, .int 0, .int 0])), (r0, .inl (cI, 60, .inl (fun _ => 0))), (r1, .inl (cI, 60, .inl (fun _ => 0))), (r2, .inl (cI, 60, .inl (fun _ => 0))), (r3, .inl (cI, 60, .inl (fun _ => 0))), (r4, .inl (cI, 60, .inl (fun _ => 0)))]) := hD
  refine va_putF (D := D) (ci := 3) (v := .ref r4) (ty := (.array .int)) (C := RX4) (T := TX4) (N := 8) hx hb ht i_X4 tyX4 tyX4_ok nmX4 hown hKN.1.1 hP hD hS 0 rfl rfl 4 (by decide) (ht _ kFL_RX4_24) (fun _ h9 => h9) rfl hin rfl (by decide +kernel) rfl rfl (Nat.le_of_ble_eq_true rfl) dX4_init_41 (fun H locs hP hD hS => ?_)
  have hP : va_P D vwCl ([(h0, .inr (3, [.ref r0, .ref r1, .ref r2, .ref r3, .ref r4, .null, .int 0, .int 0])), (r0, .inl (cI, 60, .inl (fun _ => 0))), (r1, .inl (cI, 60, .inl (fun _ => 0))), (r2, .inl (cI, 60, .inl (fun _ => 0))), (r3, .inl (cI, 60, .inl (fun _ => 0))), (r4, .inl (cI, 60, .inl (fun _ => 0)))]) H := hP
  have hD : va_D A ([(h0, .inr (3, [.ref r0, .ref r1, .ref r2, .ref r3, .ref r4, .null, .int 0, .int 0])), (r0, .inl (cI, 60, .inl (fun _ => 0))), (r1, .inl (cI, 60, .inl (fun _ => 0))), (r2, .inl (cI, 60, .inl (fun _ => 0))), (r3, .inl (cI, 60, .inl (fun _ => 0))), (r4, .inl (cI, 60, .inl (fun _ => 0)))]) := hD
  refine lv_aload_n hx hb dX4_init_44 rfl (lv_at hl 0 rfl) ?_
  refine lv_bipush (v := (60 : Int32)) hx hb dX4_init_45 (by decide) ?_
  refine mk_ints (t0 := 0) (cI := cI) (N := 60) rfl hx hb ht hKN.1.1 hP hD hS hA (by decide) rfl (by decide) (by decide) (by decide) dX4_init_47 (fun r5 H hP hD hS => ?_)
  have hP : va_P D vwCl ([(h0, .inr (3, [.ref r0, .ref r1, .ref r2, .ref r3, .ref r4, .null, .int 0, .int 0])), (r0, .inl (cI, 60, .inl (fun _ => 0))), (r1, .inl (cI, 60, .inl (fun _ => 0))), (r2, .inl (cI, 60, .inl (fun _ => 0))), (r3, .inl (cI, 60, .inl (fun _ => 0))), (r4, .inl (cI, 60, .inl (fun _ => 0))), (r5, .inl (cI, 60, .inl (fun _ => 0)))]) H := hP
  have hD : va_D A ([(h0, .inr (3, [.ref r0, .ref r1, .ref r2, .ref r3, .ref r4, .null, .int 0, .int 0])), (r0, .inl (cI, 60, .inl (fun _ => 0))), (r1, .inl (cI, 60, .inl (fun _ => 0))), (r2, .inl (cI, 60, .inl (fun _ => 0))), (r3, .inl (cI, 60, .inl (fun _ => 0))), (r4, .inl (cI, 60, .inl (fun _ => 0))), (r5, .inl (cI, 60, .inl (fun _ => 0)))]) := hD
  refine va_putF (D := D) (ci := 3) (v := .ref r5) (ty := (.array .int)) (C := RX4) (T := TX4) (N := 8) hx hb ht i_X4 tyX4 tyX4_ok nmX4 hown hKN.1.1 hP hD hS 0 rfl rfl 5 (by decide) (ht _ kFL_RX4_27) (fun _ h9 => h9) rfl hin rfl (by decide +kernel) rfl rfl (Nat.le_of_ble_eq_true rfl) dX4_init_49 (fun H locs hP hD hS => ?_)
  have hP : va_P D vwCl ([(h0, .inr (3, [.ref r0, .ref r1, .ref r2, .ref r3, .ref r4, .ref r5, .int 0, .int 0])), (r0, .inl (cI, 60, .inl (fun _ => 0))), (r1, .inl (cI, 60, .inl (fun _ => 0))), (r2, .inl (cI, 60, .inl (fun _ => 0))), (r3, .inl (cI, 60, .inl (fun _ => 0))), (r4, .inl (cI, 60, .inl (fun _ => 0))), (r5, .inl (cI, 60, .inl (fun _ => 0)))]) H := hP
  have hD : va_D A ([(h0, .inr (3, [.ref r0, .ref r1, .ref r2, .ref r3, .ref r4, .ref r5, .int 0, .int 0])), (r0, .inl (cI, 60, .inl (fun _ => 0))), (r1, .inl (cI, 60, .inl (fun _ => 0))), (r2, .inl (cI, 60, .inl (fun _ => 0))), (r3, .inl (cI, 60, .inl (fun _ => 0))), (r4, .inl (cI, 60, .inl (fun _ => 0))), (r5, .inl (cI, 60, .inl (fun _ => 0)))]) := hD
  refine lv_aload_n hx hb dX4_init_52 rfl (lv_at hl 0 rfl) ?_
  refine lv_iconst (v := -1) hx hb dX4_init_53 (by decide) ?_
  refine va_put (D := D) (ci := 3) (v := .int (-1)) (ty := .int) (C := RX4) (T := TX4) (N := 8) hx hb ht i_X4 tyX4 tyX4_ok nmX4 hown hKN.1.1 hP hD hS 0 rfl rfl 6 (by decide) (ht _ kFL_RX4_30) (fun _ h9 => h9) rfl (by decide +kernel) rfl rfl (Nat.le_of_ble_eq_true rfl) dX4_init_54 (fun H locs hP hD hS => ?_)
  have hP : va_P D vwCl ([(h0, .inr (3, [.ref r0, .ref r1, .ref r2, .ref r3, .ref r4, .ref r5, .int (-1), .int 0])), (r0, .inl (cI, 60, .inl (fun _ => 0))), (r1, .inl (cI, 60, .inl (fun _ => 0))), (r2, .inl (cI, 60, .inl (fun _ => 0))), (r3, .inl (cI, 60, .inl (fun _ => 0))), (r4, .inl (cI, 60, .inl (fun _ => 0))), (r5, .inl (cI, 60, .inl (fun _ => 0)))]) H := hP
  have hD : va_D A ([(h0, .inr (3, [.ref r0, .ref r1, .ref r2, .ref r3, .ref r4, .ref r5, .int (-1), .int 0])), (r0, .inl (cI, 60, .inl (fun _ => 0))), (r1, .inl (cI, 60, .inl (fun _ => 0))), (r2, .inl (cI, 60, .inl (fun _ => 0))), (r3, .inl (cI, 60, .inl (fun _ => 0))), (r4, .inl (cI, 60, .inl (fun _ => 0))), (r5, .inl (cI, 60, .inl (fun _ => 0)))]) := hD
  refine lv_aload_n hx hb dX4_init_57 rfl (lv_at hl 0 rfl) ?_
  refine lv_iconst (v := 0) hx hb dX4_init_58 (by decide) ?_
  refine va_put (D := D) (ci := 3) (v := .int 0) (ty := .int) (C := RX4) (T := TX4) (N := 8) hx hb ht i_X4 tyX4 tyX4_ok nmX4 hown hKN.1.1 hP hD hS 0 rfl rfl 7 (by decide) (ht _ kFL_RX4_34) (fun _ h9 => h9) rfl (by decide +kernel) rfl rfl (Nat.le_of_ble_eq_true rfl) dX4_init_59 (fun H locs hP hD hS => ?_)
  have hP : va_P D vwCl ([(h0, .inr (3, [.ref r0, .ref r1, .ref r2, .ref r3, .ref r4, .ref r5, .int (-1), .int 0])), (r0, .inl (cI, 60, .inl (fun _ => 0))), (r1, .inl (cI, 60, .inl (fun _ => 0))), (r2, .inl (cI, 60, .inl (fun _ => 0))), (r3, .inl (cI, 60, .inl (fun _ => 0))), (r4, .inl (cI, 60, .inl (fun _ => 0))), (r5, .inl (cI, 60, .inl (fun _ => 0)))]) H := hP
  have hD : va_D A ([(h0, .inr (3, [.ref r0, .ref r1, .ref r2, .ref r3, .ref r4, .ref r5, .int (-1), .int 0])), (r0, .inl (cI, 60, .inl (fun _ => 0))), (r1, .inl (cI, 60, .inl (fun _ => 0))), (r2, .inl (cI, 60, .inl (fun _ => 0))), (r3, .inl (cI, 60, .inl (fun _ => 0))), (r4, .inl (cI, 60, .inl (fun _ => 0))), (r5, .inl (cI, 60, .inl (fun _ => 0)))]) := hD
  refine lv_aload_n hx hb dX4_init_62 rfl (lv_at hl 0 rfl) ?_
  refine va_get (D := D) (ci := 3) (v := .ref r0) (C := RX4) (T := TX4) (N := 8) hx hb ht i_X4 hown hKN.1.1 hP 0 rfl rfl 0 (by decide) (ht _ kFL_RX4_9) (fun _ h9 => h9) rfl dX4_init_63 ?_
  refine lv_iconst (v := -1) hx hb dX4_init_66 (by decide) ?_
  refine mk_fill (p0 := 1) (a := r0) (As := [.ref r0, .int (-1)]) (rest := []) (n_fill (fun _ => 0) (-1)) hx hb hml hown ht hKN.1 hP hD hS rfl wJ7_fill_53178 kML_RX4_37 rfl rfl ⟨Nat.le_of_ble_eq_true rfl, Nat.le_of_ble_eq_true rfl⟩ ⟨Nat.le_of_ble_eq_true rfl, Nat.le_of_ble_eq_true rfl⟩ rfl hl.1 rfl (Nat.le_of_ble_eq_true rfl) dX4_init_67 (fun H locs hP hD hS => ?_)
  refine W.widen (k := 6) (n := 360) (by omega) (by omega) ?_
  exact ret _ _ _ _ (fun k => match k with | 0 => h0 | 1 => r0 | 2 => r1 | 3 => r2 | 4 => r3 | 5 => r4 | _ => r5) rfl hP hD hS dX4_init_70
