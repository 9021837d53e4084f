/-! ===== worlds that keep their cells: the contract of a method over one, and its calls ===== -/
theorem i_X1 : ∀ w ∈ wsX10, w ∈ kt := by decide +kernel
theorem i_X2 : ∀ w ∈ wsX20, w ∈ kt := by decide +kernel
theorem i_X3 : ∀ w ∈ wsX30, w ∈ kt := by decide +kernel
theorem i_X4 : ∀ w ∈ wsX40, w ∈ kt := by decide +kernel
theorem i_X5 : ∀ w ∈ wsX50, w ∈ kt := by decide +kernel
theorem i_X7 : ∀ w ∈ wsX70, w ∈ kt := by decide +kernel
theorem i_X8 : ∀ w ∈ wsX80, w ∈ kt := by decide +kernel
theorem i_X9 : ∀ w ∈ wsX90, w ∈ kt := by decide +kernel
/-- what a method of a family asks beside its cells: the classes, and the one link to a nest mate -/
def kX (D : va_G) (tys : List (ClassId × FieldType)) (U : State) : Prop := va_K D vwCl tys U ∧ va_Nw (.methodLinkNest RX6 84 yX8_isWithin RX8) U
theorem kX_calling {D : va_G} {tys : List (ClassId × FieldType)} {U : State} {g : JFrame} {mk : MethodId} {a : Array Value} (h : kX D tys U) : kX D tys (U.calling g mk a) := ⟨va_K.moved (u := U) (U := U.calling g mk a) (Vm.Alike.refl U.vm) h.1, va_Nw.same rfl rfl h.2⟩
theorem kX_warm {D : va_G} {tys : List (ClassId × FieldType)} {s U : State} (hW : s.WarmedH U.vm) (h : kX D tys s) : kX D tys U := ⟨va_K.moved hW.alike h.1, va_Nw.warmM hW h.2⟩
def kPre (D : va_G) (tys : List (ClassId × FieldType)) (w : va_W) (U : State) : Prop := va_P D vwCl w U.heap ∧ kX D tys U
/-- the contracts: an int (or boolean) comes back, or nothing; the world is then w' -/
def CTi (l : Launch) (y : MethodName) (cc : ByteArray) (maxL : Nat) (ret : FieldType) (rm : Room) (D : va_G) (tys : List (ClassId × FieldType)) (A : Nat → Prop) (av : List Value) (w : va_W) (r : Int32) (w' : va_W) : Prop :=
  Met l y (.code y cc maxL (some ret) :: kt) rm (va_Pc av (kPre D tys w)) (va_Qi (fun r' (_ : Unit) => r' = r) (fun _ t => va_P D vwCl w' t.heap) A) 0 0 A
def CTv (l : Launch) (y : MethodName) (cc : ByteArray) (maxL : Nat) (rm : Room) (D : va_G) (tys : List (ClassId × FieldType)) (A : Nat → Prop) (av : List Value) (w w' : va_W) : Prop :=
  Met l y (.code y cc maxL none :: kt) rm (va_Pc av (kPre D tys w)) (va_Qv (fun (_ : Unit) => True) (fun _ t => va_P D vwCl w' t.heap) A) 0 0 A
theorem ct_int {l : Launch} {y : MethodName} {cc : ByteArray} {maxL : Nat} {rm : Room} {D : va_G} {tys : List (ClassId × FieldType)} {A : Nat → Prop} {av : List Value} {w : va_W} {r : Int32} {w' : va_W} (hy : plainName y.cls = true) (hn : (lg_sl av).length ≤ maxL)
    (body : ∀ (p : Program) (e : Env) (s : State) (m : MethodId) (args : Array Value) (below : List Frame) (meth : Method) (c : Code) (Q : State → Prop) (ls : Array Slot), p.tables.exec = Jvm.exec → c.code = cc → c.maxLocals = maxL → s.vm.findClass y.cls = some m.cls → (∀ w ∈ kt, w.before args s = true) → kX D tys s →
      (∀ (H : Heap) (locs : List Loc) (ls : Array Slot) (pc : Nat), va_P D vwCl w' H → va_S A s.heap H locs → decode cc pc = .ok (.ireturn, 1) → W p l e rm s m args below meth c H locs 0 0 Q (F0 m pc ls [.int r])) →
      va_P D vwCl w s.heap → va_S A s.heap s.heap [] → lv_has ls maxL (lv_args 0 av) → W p l e rm s m args below meth c s.heap [] 0 0 Q (F0 m 0 ls [])) : CTi l y cc maxL .int rm D tys A av w r w' := by
  refine Met.ofW (cc := cc) (maxL := maxL) (ret := some .int) hy rfl ?_
  intro p e s m args below meth c s₁ B hml hv
  obtain ⟨rfl, hP, hX⟩ := hv
  have hr := B.returns
  have hts := atoms_spec (ws := .code y cc maxL (some .int) :: kt) B.pre
  have hlocks := B.notSynchronized
  have hl := lv_entry av (n := maxL) hn
  rw [lg_entry_eq]
  exact body p e s m _ below meth c _ _ B.exec B.bytes hml (findClass_of_methodNamed B.named) (fun w h => hts w (List.mem_cons_of_mem _ h)) hX
    (fun H locs ls pc hP1 hS hd => W.iret B.exec B.bytes hr (fun t ht hW => ⟨⟨r, (), rfl, rfl, by show va_P D vwCl w' t.heap; rw [ht]; exact hP1⟩, hS.F ht⟩) hS.2.2 hd) hP va_S.rf hl
theorem ct_bool {l : Launch} {y : MethodName} {cc : ByteArray} {maxL : Nat} {rm : Room} {D : va_G} {tys : List (ClassId × FieldType)} {A : Nat → Prop} {av : List Value} {w : va_W} {r : Int32} {w' : va_W} (hy : plainName y.cls = true) (hn : (lg_sl av).length ≤ maxL)
    (body : ∀ (p : Program) (e : Env) (s : State) (m : MethodId) (args : Array Value) (below : List Frame) (meth : Method) (c : Code) (Q : State → Prop) (ls : Array Slot), p.tables.exec = Jvm.exec → c.code = cc → c.maxLocals = maxL → s.vm.findClass y.cls = some m.cls → (∀ w ∈ kt, w.before args s = true) → kX D tys s →
      (∀ (H : Heap) (locs : List Loc) (ls : Array Slot) (pc : Nat), (r = 0 ∨ r = 1) → va_P D vwCl w' H → va_S A s.heap H locs → decode cc pc = .ok (.ireturn, 1) → W p l e rm s m args below meth c H locs 0 0 Q (F0 m pc ls [.int r])) →
      va_P D vwCl w s.heap → va_S A s.heap s.heap [] → lv_has ls maxL (lv_args 0 av) → W p l e rm s m args below meth c s.heap [] 0 0 Q (F0 m 0 ls [])) : CTi l y cc maxL .boolean rm D tys A av w r w' := by
  refine Met.ofW (cc := cc) (maxL := maxL) (ret := some .boolean) hy rfl ?_
  intro p e s m args below meth c s₁ B hml hv
  obtain ⟨rfl, hP, hX⟩ := hv
  have hr := B.returns
  have hts := atoms_spec (ws := .code y cc maxL (some .boolean) :: kt) B.pre
  have hlocks := B.notSynchronized
  have hl := lv_entry av (n := maxL) hn
  rw [lg_entry_eq]
  exact body p e s m _ below meth c _ _ B.exec B.bytes hml (findClass_of_methodNamed B.named) (fun w h => hts w (List.mem_cons_of_mem _ h)) hX
    (fun H locs ls pc h01 hP1 hS hd => W.zret B.exec B.bytes hr (by rcases h01 with h | h <;> (rw [h]; rfl)) (fun t ht hW => ⟨⟨r, (), rfl, rfl, by show va_P D vwCl w' t.heap; rw [ht]; exact hP1⟩, hS.F ht⟩) hS.2.2 hd) hP va_S.rf hl
theorem ct_void {l : Launch} {y : MethodName} {cc : ByteArray} {maxL : Nat} {rm : Room} {D : va_G} {tys : List (ClassId × FieldType)} {A : Nat → Prop} {av : List Value} {w : va_W} {w' : va_W} (hy : plainName y.cls = true) (hn : (lg_sl av).length ≤ maxL)
    (body : ∀ (p : Program) (e : Env) (s : State) (m : MethodId) (args : Array Value) (below : List Frame) (meth : Method) (c : Code) (Q : State → Prop) (ls : Array Slot), p.tables.exec = Jvm.exec → c.code = cc → c.maxLocals = maxL → s.vm.findClass y.cls = some m.cls → (∀ w ∈ kt, w.before args s = true) → kX D tys s →
      (∀ (H : Heap) (locs : List Loc) (ls : Array Slot) (pc : Nat), va_P D vwCl w' H → va_S A s.heap H locs → decode cc pc = .ok (.return_, 1) → W p l e rm s m args below meth c H locs 0 0 Q (F0 m pc ls [])) →
      va_P D vwCl w s.heap → va_S A s.heap s.heap [] → lv_has ls maxL (lv_args 0 av) → W p l e rm s m args below meth c s.heap [] 0 0 Q (F0 m 0 ls [])) : CTv l y cc maxL rm D tys A av w w' := by
  refine Met.ofW (cc := cc) (maxL := maxL) (ret := none) hy rfl ?_
  intro p e s m args below meth c s₁ B hml hv
  obtain ⟨rfl, hP, hX⟩ := hv
  have hr := B.returns
  have hts := atoms_spec (ws := .code y cc maxL none :: kt) B.pre
  have hlocks := B.notSynchronized
  have hl := lv_entry av (n := maxL) hn
  rw [lg_entry_eq]
  exact body p e s m _ below meth c _ _ B.exec B.bytes hml (findClass_of_methodNamed B.named) (fun w h => hts w (List.mem_cons_of_mem _ h)) hX
    (fun H locs ls pc hP1 hS hd => W.vret B.exec B.bytes hr (fun t ht hW => ⟨⟨(), rfl, trivial, by show va_P D vwCl w' t.heap; rw [ht]; exact hP1⟩, hS.F ht⟩) hS.2.2 hd) hP va_S.rf hl
/-- the words of a method that is called on an object, or statically -/
def kV (y : MethodName) (cc : ByteArray) (maxL : Nat) (ret : Option FieldType) (n : Nat) : Prop := Cond.code y cc maxL ret ∈ kt ∧ Cond.instanceMethod y ∈ kt ∧ Cond.selects y.cls y y ∈ kt ∧ Cond.initialized y.cls ∈ kt ∧ (y.cls ≠ "java/lang/invoke/MethodHandle" ∧ y.cls ≠ "java/lang/invoke/VarHandle" ∧ (parseMethodDescriptor y.desc).map (fun d => d.parameters.length) = some n)
def kF (y : MethodName) (cc : ByteArray) (maxL : Nat) (ret : Option FieldType) (n : Nat) : Prop := Cond.code y cc maxL ret ∈ kt ∧ Cond.static y ∈ kt ∧ Cond.initialized y.cls ∈ kt ∧ (y.cls ≠ "java/lang/invoke/MethodHandle" ∧ y.cls ≠ "java/lang/invoke/VarHandle" ∧ (parseMethodDescriptor y.desc).map (fun d => d.parameters.length) = some n)
theorem kt_code {y : MethodName} {cc : ByteArray} {maxL : Nat} {ret : Option FieldType} (h : Cond.code y cc maxL ret ∈ kt) : GoodIn kt (.code y cc maxL ret :: kt) := fun w hw => (List.mem_cons.mp hw).elim (fun e => by rw [e]; exact kt_good _ h) (kt_good w)
section CALLS
variable {p : Program} {l : Launch} {e : Env} {R : Room} {s : State} {m : MethodId} {args : Array Value} {below : List Frame} {meth : Method} {c : Code} {H : Heap} {locs : List Loc} {Q : State → Prop}
  {y : MethodName} {bytes cc : ByteArray} {maxL nL n index : Nat} {ret : FieldType} {rm : Room} {own : String} {b : Addr} {As rest st0 : List Value} {D : va_G} {tys : List (ClassId × FieldType)} {A : Nat → Prop} {w w' : va_W} {r : Int32} {pc : Nat} {ls : Array Slot} {H0 : Heap}
theorem kPre_pre {av : List Value} (hX : kX D tys s) (hP : va_P D vwCl w H) : FrameBlind (va_Pc av (kPre D tys w)) ∧ ∀ U : State, U.heap = H → s.WarmedH U.vm → va_Pc av (kPre D tys w) av.toArray U :=
  ⟨fun a U g mk q => ⟨q.1, q.2.1, kX_calling q.2.2⟩, fun U hU hW => ⟨rfl, by rw [hU]; exact hP, kX_warm hW hX⟩⟩
/-- a call on an object, an int comes back -/
theorem ct_cVi (hM : CTi l y bytes maxL ret rm D tys A (.ref b :: As) w r w') (hx : p.tables.exec = Jvm.exec) (hb : c.code = cc) (hml : c.maxLocals = nL) (hown : s.vm.findClass own = some m.cls) (ht : ∀ w ∈ kt, w.before args s = true) (hX : kX D tys s) (hP : va_P D vwCl w H) (hS : va_S A H0 H locs)
    (hk : kV y bytes maxL (some ret) n) (hlk : Cond.methodLink own index y ∈ kt) (hc0 : rm.cells = 0) (hs0 : rm.slots = 0) (hR : rm.frames + 1 ≤ R.frames ∧ 8 + (maxL + 11) + rm.locals ≤ R.locals) (hrecv : ∃ cellB : Cell, H[b]? = some cellB ∧ cellB.vm.isStatics = false ∧ s.vm.findClass y.cls = some cellB.cls)
    (hn : As.length = n) (hsz : ls.size = nL) (hst : st0 = As.reverse ++ .ref b :: rest) (hW : (rest.map fun v => v.category).sum ≤ 8) (hdg : decode cc pc = .ok (.invokevirtual index, 3))
    (kk : ∀ (H1 : Heap) (locs1 : List Loc), va_P D vwCl w' H1 → va_S A H0 H1 locs1 → W p l e R s m args below meth c H1 locs1 0 0 Q (F0 m (pc + 3) ls (.int r :: rest))) : W p l e R s m args below meth c H locs 0 0 Q (F0 m pc ls st0) := by
  obtain ⟨h1, h2, h3, h4, h5⟩ := hk
  have hpre := kPre_pre (av := .ref b :: As) hX hP
  have hcw : CallW R s args own y.cls index y bytes maxL (some ret) (.code y bytes maxL (some ret) :: kt) rm 0 0 n := ⟨callB_of n ht (kt_code h1) rfl hc0 hs0 (ht _ h4) (ht _ hlk) h5 hR, ht _ h2, ht _ h3⟩
  refine va_calli (va_runV (As := As) (rest := rest) (C := y.cls) ⟨hx, hb, hml, hown, ht⟩ hM hcw ⟨hpre.1, hrecv, hpre.2⟩ rfl hn hsz hst (lv_room hW) hdg ⟨Nat.zero_le _, Nat.zero_le _⟩) hS (fun _ _ h => h) (fun _ h => h) (fun r1 u t H1 locs1 hth hvm hw hB hz1 hk1 hS1 => ?_)
  rw [hth] at hB
  rw [hw]
  exact kk H1 locs1 hB hS1
theorem ct_cVv (hM : CTv l y bytes maxL rm D tys A (.ref b :: As) w w') (hx : p.tables.exec = Jvm.exec) (hb : c.code = cc) (hml : c.maxLocals = nL) (hown : s.vm.findClass own = some m.cls) (ht : ∀ w ∈ kt, w.before args s = true) (hX : kX D tys s) (hP : va_P D vwCl w H) (hS : va_S A H0 H locs)
    (hk : kV y bytes maxL none n) (hlk : Cond.methodLink own index y ∈ kt) (hc0 : rm.cells = 0) (hs0 : rm.slots = 0) (hR : rm.frames + 1 ≤ R.frames ∧ 8 + (maxL + 11) + rm.locals ≤ R.locals) (hrecv : ∃ cellB : Cell, H[b]? = some cellB ∧ cellB.vm.isStatics = false ∧ s.vm.findClass y.cls = some cellB.cls)
    (hn : As.length = n) (hsz : ls.size = nL) (hst : st0 = As.reverse ++ .ref b :: rest) (hW : (rest.map fun v => v.category).sum ≤ 8) (hdg : decode cc pc = .ok (.invokevirtual index, 3))
    (kk : ∀ (H1 : Heap) (locs1 : List Loc), va_P D vwCl w' H1 → va_S A H0 H1 locs1 → W p l e R s m args below meth c H1 locs1 0 0 Q (F0 m (pc + 3) ls rest)) : W p l e R s m args below meth c H locs 0 0 Q (F0 m pc ls st0) := by
  obtain ⟨h1, h2, h3, h4, h5⟩ := hk
  have hpre := kPre_pre (av := .ref b :: As) hX hP
  have hcw : CallW R s args own y.cls index y bytes maxL none (.code y bytes maxL none :: kt) rm 0 0 n := ⟨callB_of n ht (kt_code h1) rfl hc0 hs0 (ht _ h4) (ht _ hlk) h5 hR, ht _ h2, ht _ h3⟩
  refine va_callv (va_runV (As := As) (rest := rest) (C := y.cls) ⟨hx, hb, hml, hown, ht⟩ hM hcw ⟨hpre.1, hrecv, hpre.2⟩ rfl hn hsz hst (lv_room hW) hdg ⟨Nat.zero_le _, Nat.zero_le _⟩) hS (fun _ _ h => h) (fun _ h => h) (fun u t H1 locs1 hth hvm hw hB hz1 hk1 hS1 => ?_)
  rw [hth] at hB
  exact kk H1 locs1 hB hS1
theorem ct_cSi (hM : CTi l y bytes maxL ret rm D tys A As w r w') (hx : p.tables.exec = Jvm.exec) (hb : c.code = cc) (hml : c.maxLocals = nL) (hown : s.vm.findClass own = some m.cls) (ht : ∀ w ∈ kt, w.before args s = true) (hX : kX D tys s) (hP : va_P D vwCl w H) (hS : va_S A H0 H locs)
    (hk : kF y bytes maxL (some ret) n) (hlk : Cond.methodLink own index y ∈ kt) (hc0 : rm.cells = 0) (hs0 : rm.slots = 0) (hR : rm.frames + 1 ≤ R.frames ∧ 8 + (maxL + 11) + rm.locals ≤ R.locals)
    (hn : As.length = n) (hsz : ls.size = nL) (hst : st0 = As.reverse ++ rest) (hW : (rest.map fun v => v.category).sum ≤ 8) (hdg : decode cc pc = .ok (.invokestatic index, 3))
    (kk : ∀ (H1 : Heap) (locs1 : List Loc), va_P D vwCl w' H1 → va_S A H0 H1 locs1 → W p l e R s m args below meth c H1 locs1 0 0 Q (F0 m (pc + 3) ls (.int r :: rest))) : W p l e R s m args below meth c H locs 0 0 Q (F0 m pc ls st0) := by
  obtain ⟨h1, h2, h4, h5⟩ := hk
  have hpre := kPre_pre (av := As) hX hP
  have hcw : CallB R s args own index y bytes maxL (some ret) (.code y bytes maxL (some ret) :: kt) rm 0 0 n ∧ (Cond.static y).before args s = true := ⟨callB_of n ht (kt_code h1) rfl hc0 hs0 (ht _ h4) (ht _ hlk) h5 hR, ht _ h2⟩
  refine va_calli (va_runS (As := As) (rest := rest) ⟨hx, hb, hml, hown, ht⟩ hM hcw ⟨hpre.1, hpre.2⟩ rfl hn hsz hst (lv_room hW) hdg ⟨Nat.zero_le _, Nat.zero_le _⟩) hS (fun _ _ h => h) (fun _ h => h) (fun r1 u t H1 locs1 hth hvm hw hB hz1 hk1 hS1 => ?_)
  rw [hth] at hB
  rw [hw]
  exact kk H1 locs1 hB hS1
theorem ct_cNi {host : String} (hM : CTi l y bytes maxL ret rm D tys A As w r w') (hx : p.tables.exec = Jvm.exec) (hb : c.code = cc) (hml : c.maxLocals = nL) (hown : s.vm.findClass own = some m.cls) (ht : ∀ w ∈ kt, w.before args s = true) (hX : kX D tys s) (hP : va_P D vwCl w H) (hS : va_S A H0 H locs)
    (hk : kF y bytes maxL (some ret) n) (hlk : va_Nw (.methodLinkNest own index y host) s) (hc0 : rm.cells = 0) (hs0 : rm.slots = 0) (hR : rm.frames + 1 ≤ R.frames ∧ 8 + (maxL + 11) + rm.locals ≤ R.locals)
    (hn : As.length = n) (hsz : ls.size = nL) (hst : st0 = As.reverse ++ rest) (hW : (rest.map fun v => v.category).sum ≤ 8) (hdg : decode cc pc = .ok (.invokestatic index, 3))
    (kk : ∀ (H1 : Heap) (locs1 : List Loc), va_P D vwCl w' H1 → va_S A H0 H1 locs1 → W p l e R s m args below meth c H1 locs1 0 0 Q (F0 m (pc + 3) ls (.int r :: rest))) : W p l e R s m args below meth c H locs 0 0 Q (F0 m pc ls st0) := by
  obtain ⟨h1, h2, h4, h5⟩ := hk
  have hpre := kPre_pre (av := As) hX hP
  have hcw : va_CN R s args own index y host bytes maxL (some ret) (.code y bytes maxL (some ret) :: kt) rm 0 0 n ∧ (Cond.static y).before args s = true ∧ True := ⟨va_cnB n ht (kt_code h1) rfl hc0 hs0 hlk (ht _ h4) h5 hR, ht _ h2, trivial⟩
  refine va_calli (va_runSN (As := As) (rest := rest) ⟨hx, hb, hml, hown, ht⟩ hM hcw ⟨hpre.1, hpre.2⟩ rfl hn hsz hst (lv_room hW) hdg ⟨Nat.zero_le _, Nat.zero_le _⟩) hS (fun _ _ h => h) (fun _ h => h) (fun r1 u t H1 locs1 hth hvm hw hB hz1 hk1 hS1 => ?_)
  rw [hth] at hB
  rw [hw]
  exact kk H1 locs1 hB hS1
end CALLS
/-- out of a bind -/
theorem obE {α β : Type} {x : Option α} {f : α → Option β} {b : β} (h : x.bind f = some b) : ∃ a, x = some a ∧ f a = some b := by
  cases x with
  | none => cases h
  | some a => exact ⟨a, rfl, h⟩
theorem ngE {α : Type} {P : Prop} (d : Decidable P) {x : Option α} {b : α} (h : (if P then none else x) = some b) : ¬ P ∧ x = some b := by
  by_cases q : P
  · rw [if_pos q] at h; cases h
  · rw [if_neg q] at h; exact ⟨q, h⟩
theorem psE {α : Type} {P : Prop} (d : Decidable P) {x : Option α} {b : α} (h : (if P then x else none) = some b) : P ∧ x = some b := by
  by_cases q : P
  · rw [if_pos q] at h; exact ⟨q, h⟩
  · rw [if_neg q] at h; cases h
abbrev Tr : Type := Std.DTreeMap.Internal.Impl Nat (fun _ => Unit)
def tr_sz : Tr → Nat
  | .leaf => 0
  | .inner _ _ _ l r => tr_sz l + 1 + tr_sz r
theorem tr_t (s : Nat) (l r : Tr) : tr_sz (.inner 0 s () l r) = tr_sz l + 1 + tr_sz r := rfl
theorem tr_ind (t : Tr) : tr_sz t = tr_sz t := by
  induction t with
  | leaf => rfl
  | inner z k v l r ihl ihr => rfl
