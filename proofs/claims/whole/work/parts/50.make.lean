/-! ===== objects that are made ===== -/
def kN (D : va_G) (tys : List (ClassId × FieldType)) (U : State) : Prop := kX D tys U ∧ (va_Nw (.methodLinkNest RX8 9 yX7_init RX8) U ∧ va_Nw (.methodLinkNest RX8 28 yX2_init RX8) U ∧ va_Nw (.methodLinkNest RX8 39 yX3_init RX8) U ∧ va_Nw (.methodLinkNest RX3 9 yX7_init RX8) U ∧ va_Nw (.methodLinkNest RX5 24 yX7_init RX8) U ∧ va_Nw (.methodLinkNest RX7 20 yX1_init RX8) U) ∧ va_AO RX7 U ∧ va_AO RX3 U
theorem kN_calling {D : va_G} {tys : List (ClassId × FieldType)} {U : State} {g : JFrame} {mk : MethodId} {a : Array Value} (h : kN D tys U) : kN D tys (U.calling g mk a) := by
  obtain ⟨h1, ⟨a1, a2, a3, a4, a5, a6⟩, b1, b2⟩ := h
  exact ⟨kX_calling h1, ⟨va_Nw.same rfl rfl a1, va_Nw.same rfl rfl a2, va_Nw.same rfl rfl a3, va_Nw.same rfl rfl a4, va_Nw.same rfl rfl a5, va_Nw.same rfl rfl a6⟩, va_AO.moved (u := U) (U := U.calling g mk a) (Vm.Alike.refl U.vm) b1, va_AO.moved (u := U) (U := U.calling g mk a) (Vm.Alike.refl U.vm) b2⟩
theorem kN_warm {D : va_G} {tys : List (ClassId × FieldType)} {s U : State} (hW : s.WarmedH U.vm) (h : kN D tys s) : kN D tys U := by
  obtain ⟨h1, ⟨a1, a2, a3, a4, a5, a6⟩, b1, b2⟩ := h
  exact ⟨kX_warm hW h1, ⟨va_Nw.warmM hW a1, va_Nw.warmM hW a2, va_Nw.warmM hW a3, va_Nw.warmM hW a4, va_Nw.warmM hW a5, va_Nw.warmM hW a6⟩, va_AO.moved hW.alike b1, va_AO.moved hW.alike b2⟩
theorem mk_join {A0 : Nat → Prop} {D : va_G} {cl : List vw_C} {ws w1 : va_W} {x : Nat × va_E} {H H1 : Heap} (hP : va_P D cl (ws ++ [x]) H) (hD : va_D A0 (ws ++ [x])) (hk : ∀ q : Nat, q < H.size → ¬ va_A [x] H.size q → H1[q]? = H[q]?) (hF : ∀ q, va_A [x] H.size q → A0 q) (hP1 : va_P D cl w1 H1) (hD1 : va_D (va_A [x] H.size) w1) : va_P D cl (ws ++ w1) H1 ∧ va_D A0 (ws ++ w1) := by
  have hlen : ∀ (k : Nat) (q : Nat × va_E), ws[k]? = some q → (ws ++ [x])[k]? = some q := fun k q hq => by
    rw [List.getElem?_append_left (List.getElem?_eq_some_iff.mp hq).1]; exact hq
  have hx : (ws ++ [x])[ws.length]? = some x := by rw [List.getElem?_append_right (Nat.le_refl _), Nat.sub_self]; rfl
  have apart : ∀ (k : Nat) (q : Nat × va_E), ws[k]? = some q → q.1 < H.size ∧ ¬ va_A [x] H.size q.1 := by
    intro k q hq
    have hl := (hP k q (hlen k q hq)).lt
    refine ⟨hl, fun h => ?_⟩
    rcases h with ⟨k2, e, h⟩ | h
    · have hk2 : k2 = 0 := by
        have := (List.getElem?_eq_some_iff.mp h).1
        simp at this; exact this
      subst hk2
      obtain rfl : x = (q.1, e) := Option.some.inj h
      have := hD.1 k ws.length q (q.1, e) (hlen k q hq) hx rfl
      have h2 := (List.getElem?_eq_some_iff.mp hq).1
      omega
    · omega
  refine ⟨va_P.app (fun k q hq => ?_) hP1, va_D.app ⟨fun i j p q hp hq e => hD.1 i j p q (hlen i p hp) (hlen j q hq) e, fun k q hq => hD.2 k q (hlen k q hq)⟩ (hD1.weaken (fun k q _ h => hF q.1 h)) (fun i j x y hx hy hxy => ?_)⟩
  · obtain ⟨g1, g2⟩ := apart k q hq
    exact (hP k q (hlen k q hq)).kept (hk q.1 g1 g2)
  · exact (apart i x hx).2 (by rw [hxy]; exact hD1.2 j y hy)
/-- the contract of a constructor: the new cells, the object first -/
def CTk (l : Launch) (y : MethodName) (cc : ByteArray) (maxL : Nat) (rm : Room) (D : va_G) (tys : List (ClassId × FieldType)) (e0 : va_E) (N : Nat) (Cf : (Nat → Nat) → Nat → va_E) (k n : Nat) : Prop :=
  ∀ h0 sz : Nat, Met l y (.code y cc maxL none :: kt) rm (va_Pc [.ref h0] (fun U => U.heap.size = sz ∧ va_P D vwCl [(h0, e0)] U.heap ∧ kN D tys U)) (va_Qv (fun (q : Nat → Nat) => q 0 = h0) (fun q t => va_P D vwCl (gw N q (Cf q)) t.heap ∧ va_D (va_A [(h0, e0)] sz) (gw N q (Cf q))) (va_A [(h0, e0)] sz)) k n (va_A [(h0, e0)] sz)
theorem ct_ini {l : Launch} {y : MethodName} {cc : ByteArray} {maxL : Nat} {rm : Room} {D : va_G} {tys : List (ClassId × FieldType)} {e0 : va_E} {N : Nat} {Cf : (Nat → Nat) → Nat → va_E} {k n : Nat} (hy : plainName y.cls = true) (hyn : y.name = "<init>") (hn : 1 ≤ maxL)
    (body : ∀ (h0 : Nat) (p : Program) (e : Env) (s : State) (m : MethodId) (args : Array Value) (below : List Frame) (meth : Method) (c : Code) (Q : State → Prop) (ls : Array Slot) (A : Nat → Prop), p.tables.exec = Jvm.exec → c.code = cc → c.maxLocals = maxL → s.vm.findClass y.cls = some m.cls → (∀ w ∈ kt, w.before args s = true) → kN D tys s → meth.name = "<init>" → (∀ q : Nat, s.heap.size ≤ q → A q) →
      (∀ (H : Heap) (locs : List Loc) (ls : Array Slot) (pc : Nat) (q : Nat → Nat), q 0 = h0 → va_P D vwCl (gw N q (Cf q)) H → va_D A (gw N q (Cf q)) → va_S A s.heap H locs → decode cc pc = .ok (.return_, 1) → W p l e rm s m args below meth c H locs k n Q (F0 m pc ls [])) →
      va_P D vwCl [(h0, e0)] s.heap → va_D A [(h0, e0)] → va_S A s.heap s.heap [] → lv_has ls maxL [(0, .ref h0)] → W p l e rm s m args below meth c s.heap [] 0 0 Q (F0 m 0 ls [])) : CTk l y cc maxL rm D tys e0 N Cf k n := by
  intro h0 sz
  refine Met.ofW (cc := cc) (maxL := maxL) (ret := none) hy rfl ?_
  intro p e s m args below meth c s₁ B hml hv
  obtain ⟨rfl, hsz, hP, hX⟩ := hv
  subst hsz
  have hr := B.returns
  have hts := atoms_spec (ws := .code y cc maxL none :: kt) B.pre
  have hlocks := B.notSynchronized
  have hin : meth.name = "<init>" := (name_of_methodNamed B.named B.method).1.trans hyn
  have hl := lv_entry ([.ref h0]) (n := maxL) hn
  rw [lg_entry_eq]
  have hD : va_D (va_A [(h0, e0)] s.heap.size) [(h0, e0)] := ⟨fun i j p q hi hj _ => by
    have h1 := (List.getElem?_eq_some_iff.mp hi).1
    have h2 := (List.getElem?_eq_some_iff.mp hj).1
    simp at h1 h2; omega, fun _ _ hk => va_A.in hk⟩
  exact body h0 p e s m _ below meth c _ _ (va_A [(h0, e0)] s.heap.size) B.exec B.bytes hml (findClass_of_methodNamed B.named) (fun w h => hts w (List.mem_cons_of_mem _ h)) hX hin (fun q h => Or.inr h)
    (fun H locs ls pc q hq hP1 hD1 hS hd => W.vret B.exec B.bytes hr (fun t ht hW => ⟨⟨q, rfl, hq, by rw [ht]; exact hP1, hD1⟩, hS.F ht⟩) hS.2.2 hd) hP hD va_S.rf hl
section MAKE
variable {p : Program} {l : Launch} {e : Env} {R : Room} {s : State} {m : MethodId} {args : Array Value} {below : List Frame} {meth : Method} {c : Code} {H : Heap} {locs : List Loc} {Q : State → Prop} {cells slots : Nat}
  {y : MethodName} {bytes cc : ByteArray} {maxL nL index idx : Nat} {rm : Room} {own C : String} {rest : List Value} {D : va_G} {tys : List (ClassId × FieldType)} {A : Nat → Prop} {ws : va_W} {pc : Nat} {ls : Array Slot} {H0 : Heap} {T : u_T} {NF N ci mc ms : Nat} {fs : List Value} {Cf : (Nat → Nat) → Nat → va_E}
theorem ct_mk (hM : CTk l y bytes maxL rm D tys (.inr (ci, fs)) N Cf mc ms) (hx : p.tables.exec = Jvm.exec) (hb : c.code = cc) (hml : c.maxLocals = nL) (hown : s.vm.findClass own = some m.cls) (ht : ∀ w ∈ kt, w.before args s = true) (hKN : kN D tys s) (hP : va_P D vwCl ws H) (hD : va_D A ws) (hS : va_S A H0 H locs) (hA : ∀ q : Nat, H0.size ≤ q → A q)
    (hc : vwCl[ci]? = some (C, T, NF)) (hin : ∀ w ∈ u_ws C T NF, w ∈ kt) (ty : Nat → FieldType) (hty : ∀ k, k < NF → parseFieldDescriptor (T k).2.2.1 = some (ty k)) (hcl : Cond.classLink own idx C ∈ kt) (hinst : Cond.instantiable C NF ∈ kt) (hini : Cond.initialized C ∈ kt) (hyc : y.cls = C) (hfs : ∀ j, j < NF → defaultValue (ty j) = vp_V fs j)
    (hcode : Cond.code y bytes maxL none ∈ kt) (him : Cond.instanceMethod y ∈ kt) (hyn : y.name = "<init>") (hyd : y.cls ≠ "java/lang/invoke/MethodHandle" ∧ y.cls ≠ "java/lang/invoke/VarHandle" ∧ (parseMethodDescriptor y.desc).map (fun d => d.parameters.length) = some 0) (hlk : Cond.methodLink own index y ∈ kt ∨ ∃ host, va_Nw (.methodLinkNest own index y host) s)
    (hrc : rm.cells = mc) (hrs : rm.slots = ms) (hR : rm.frames + 1 ≤ R.frames ∧ 8 + (maxL + 11) + rm.locals ≤ R.locals) (hcells : cells + 1 + mc ≤ R.cells) (hslots : slots + NF + ms ≤ R.slots) (hsz : ls.size = nL) (hW : 1 + (rest.map fun v => v.category).sum ≤ 8)
    (d1 : decode cc pc = .ok (.new idx, 3)) (d2 : decode cc (pc + 3) = .ok (.dup, 1)) (d3 : decode cc (pc + 4) = .ok (.invokespecial index, 3))
    (kk : ∀ (q : Nat → Nat) (H1 : Heap) (locs1 : List Loc), va_P D vwCl (ws ++ gw N q (Cf q)) H1 → va_D A (ws ++ gw N q (Cf q)) → va_S A H0 H1 locs1 → W p l e R s m args below meth c H1 locs1 (cells + 1 + mc) (slots + NF + ms) Q (F0 m (pc + 7) ls (.ref (q 0) :: rest))) : W p l e R s m args below meth c H locs cells slots Q (F0 m pc ls rest) := by
  refine va_new (ci := ci) (fs := fs) (C := C) (T := T) (N := NF) hx hb ht hin ty hty hown (ht _ hcl) (ht _ hinst) (ht _ hini) hKN.1.1 hP hD hS hA hc hfs (by omega) (by omega) d1 (fun q0 H1 hP1 hD1 hS1 => ?_)
  refine lv_dup hx hb d2 rfl ?_
  have hF : ∀ q, va_A [(q0, Sum.inr (ci, fs))] H1.size q → A q := by
    intro q h
    rcases h with ⟨k, e, h⟩ | h
    · have hk : k = 0 := by
        have := (List.getElem?_eq_some_iff.mp h).1
        simp at this; exact this
      subst hk
      have := Option.some.inj h
      have hq : q0 = q := congrArg Prod.fst this
      rw [← hq]
      exact hD1.2 ws.length (q0, .inr (ci, fs)) (by rw [List.getElem?_append_right (Nat.le_refl _), Nat.sub_self]; rfl)
    · exact hA q (Nat.le_trans hS1.1 h)
  have hPc : va_P D vwCl [(q0, .inr (ci, fs))] H1 := fun k q hq => by
    have hk : k = 0 := by
      have := (List.getElem?_eq_some_iff.mp hq).1
      simp at this; exact this
    subst hk
    exact hP1 ws.length q (by rw [List.getElem?_append_right (Nat.le_refl _), Nat.sub_self]; exact hq)
  have hpre : FrameBlind (va_Pc [.ref q0] (fun U => U.heap.size = H1.size ∧ va_P D vwCl [(q0, .inr (ci, fs))] U.heap ∧ kN D tys U)) ∧ ∀ U : State, U.heap = H1 → s.WarmedH U.vm → va_Pc [.ref q0] (fun U => U.heap.size = H1.size ∧ va_P D vwCl [(q0, .inr (ci, fs))] U.heap ∧ kN D tys U) [Value.ref q0].toArray U :=
    ⟨fun a U g mk q => ⟨q.1, q.2.1, q.2.2.1, kN_calling q.2.2.2⟩, fun U hU hW => ⟨rfl, by rw [hU], by rw [hU]; exact hPc, kN_warm hW hKN⟩⟩
  have hWr : ((Value.ref q0 :: rest).map fun v => v.category).sum ≤ 8 := by
    rw [List.map_cons, List.sum_cons]
    exact hW
  have hrun : va_Run p l e R s m args below meth c H1 locs (cells + 1) (slots + NF) mc ms (F0 m (pc + 4) ls (.ref q0 :: .ref q0 :: rest)) (.ref q0 :: rest) (va_Qv (fun (q : Nat → Nat) => q 0 = q0) (fun q t => va_P D vwCl (gw N q (Cf q)) t.heap ∧ va_D (va_A [(q0, .inr (ci, fs))] H1.size) (gw N q (Cf q))) (va_A [(q0, .inr (ci, fs))] H1.size) [Value.ref q0].toArray) (va_A [(q0, .inr (ci, fs))] H1.size) := by
    rcases hlk with hlk | ⟨host, hlk⟩
    · exact va_runI (As := []) (rest := .ref q0 :: rest) ⟨hx, hb, hml, hown, ht⟩ (hM q0 H1.size) ⟨callB_of 0 ht (kt_code hcode) rfl hrc hrs (by rw [hyc]; exact ht _ hini) (ht _ hlk) hyd hR, hyn, ht _ him⟩ hpre rfl rfl hsz rfl (lv_room hWr) d3 ⟨hcells, hslots⟩
    · exact va_runIN (As := []) (rest := .ref q0 :: rest) ⟨hx, hb, hml, hown, ht⟩ (hM q0 H1.size) ⟨va_cnB 0 ht (kt_code hcode) rfl hrc hrs hlk (by rw [hyc]; exact ht _ hini) hyd hR, hyn, ht _ him⟩ hpre rfl rfl hsz rfl (lv_room hWr) d3 ⟨hcells, hslots⟩
  refine va_callv hrun hS1 (fun q _ h => hF q h) hF (fun q t H2 locs2 hth hvm hw hB hz1 hk1 hS2 => ?_)
  obtain ⟨hB1, hB2⟩ := hB
  rw [hth] at hB1
  obtain ⟨hP2, hD2⟩ := mk_join hP1 hD1 hk1 hF hB1 hB2
  have := kk q H2 locs2 hP2 hD2 hS2
  rw [hw] at this
  exact this
end MAKE
