/-! THE CLAIM OUT OF ONE WALK OF THE LAW'S BODY. Your part is whole_start (and what it stands on); all else here is the same for every law, but numbers. -/
def R_law : String := "RankIndexLaw"
def lw_P (b : Addr) (xs : List Int32) (args : Array Value) (s : State) : Prop := args = #[.ref b] ∧ s.IntsAt b xs ∧ xs.length ≤ 2048 ∧ (Jvm.Cond.and given_1 narrow_1).before args s = true
def lw_Q (_ : Array Value) (s : State) (o : Outcome) (t : State) : Prop := o = .returned (some (.int 1)) ∧ Framed s o t [] 600000 7302250
def lw_Z (below : List Frame) (a : Array Value) (s : State) : State → Prop := fun t => ∃ o, t.status = .running ∧ Ended t below o ∧ lw_Q a s o t
/-- the law's own end, with 1 on the stack, nothing written that was there before, its room as the claim has it -/
theorem lw_ret {p : Program} {l : Launch} {e : Env} {s : State} {m : MethodId} {below : List Frame} {meth : Method} {c : Code} {b : Nat} (hx : p.tables.exec = Jvm.exec) (hb : c.code = code) (hr : meth.sig.returnType = ret) (hlocks : meth.locks = false) {pc : Nat} {H : Heap} {ls : Array Slot} (hdg : decode code pc = .ok (.ireturn, 1)) : W p l e room_1 s m #[Value.ref b] below meth c H [] 600000 7302250 (lw_Z below #[Value.ref b] s) (F0 m pc ls [.int 1]) := by
  intro T hT X
  obtain ⟨fs, hret, hrun, hended, hW, hframe⟩ := X.leave (v := some (.int 1)) (hlocks := hlocks) (fun h => by rw [hr] at h; cases h)
  have hmeth' : T.vm.method? m = some meth := X.method'
  refine ⟨T.setFrames fs, ?_, .returned (some (.int 1)), hrun, hended, rfl, ⟨_, rfl⟩, hW, hframe⟩
  jvm_step X.here [X.here.top, hx, hb, hdg, hmeth', hr, ret, narrow_b1]
  (try refine ⟨rfl, ?_⟩); (try refine ⟨rfl, ?_⟩)
  first | (intro acts; rw [hret _ acts rfl rfl rfl]) | rw [hret _ _ rfl rfl rfl]
  exact Steps.refl _
/-- what holds at the law's entry: the machine, the code, the tables' words (any of lw_tbl by 'hts w (by decide +kernel)'), the script of L ints xs at the cell b, what the Statement gives of the start (any of its parts by flat_of_before) -/
def lw_At (p : Program) (s : State) (m : MethodId) (meth : Method) (c : Code) (b L : Nat) (xs : Nat → Int32) : Prop :=
  p.tables.exec = Jvm.exec ∧ c.code = code ∧ meth.sig.returnType = ret ∧ c.maxLocals = 4 ∧ s.vm.findClass R_law = some m.cls ∧ (∀ w ∈ lw_tbl, w.before #[Value.ref b] s = true) ∧ va_X b L xs s s.heap ∧ b < s.heap.size ∧ meth.locks = false ∧ (Jvm.Cond.and given_1 narrow_1).before #[Value.ref b] s = true

theorem law_head {p : Program} {l : Launch} {e : Env} {s : State} {m : MethodId} {below : List Frame} {meth : Method} {c : Code} {D : va_G} {cI cT cM cZ : ClassId} {ad bd : Nat → Nat} {b L : Nat} {xs : Nat → Int32} {c0 s0 i : Nat} {σ : Sig} {μ : Mst} {H : Heap} {locs : List Loc} {ls : Array Slot} (C : LC p s m c D cI cT cM cZ ad bd b L xs) (hr : meth.sig.returnType = ret) (hlocks : meth.locks = false) (hc0 : c0 ≤ 600000) (hs0 : s0 ≤ 7302250) (hi3 : i ≤ L + 3)
    (next : i + 4 ≤ L → ∀ (σ' : Sig) (μ' : Mst) (H : Heap) (locs : List Loc) (ls : Array Slot), LW s D cI cT cM cZ ad bd σ' μ' H locs → lv_has ls 4 [(0, .ref b), (1, .ref (ad 160)), (2, .ref (bd 0)), (3, .int (nI (i + 4)))] → W p l e room_1 s m #[Value.ref b] below meth c H locs c0 s0 (lw_Z below #[Value.ref b] s) (F0 m 18 ls []))
    (hw : LW s D cI cT cM cZ ad bd σ μ H locs) (hl : lv_has ls 4 [(0, .ref b), (1, .ref (ad 160)), (2, .ref (bd 0)), (3, .int (nI i))]) : W p l e room_1 s m #[Value.ref b] below meth c H locs c0 s0 (lw_Z below #[Value.ref b] s) (F0 m 18 ls []) := by
  obtain ⟨hx, hb, hml, hown, ht, hXc, hXm, hda, hdb, hA1, hB1, hdis, hXs, hbl, hL⟩ := id C
  obtain ⟨hR, hP, hPm, hS⟩ := id hw
  have hbA : ¬ (fun q : Nat => s.heap.size ≤ q) b := Nat.not_le.mpr hbl
  refine lv_iload_n hx hb dL_law_18 rfl (lv_at hl 3 rfl) ?_
  refine lv_aload_n hx hb dL_law_19 rfl (lv_at hl 0 rfl) ?_
  refine va_slen hx hb hXs hbl hbA hS dL_law_20 ?_
  refine lv_iconst (v := 4) hx hb dL_law_21 (by decide) ?_
  refine lv_isub hx hb dL_law_22 ?_
  refine lv_icmp_gt (tgt := 721) hx hb dL_law_23 (by decide) (fun hc1 => ?_) (fun hc1 => ?_)
  · refine lv_iconst (v := 1) hx hb dL_law_721 (by decide) ?_
    refine va_forget (fun q hq => hS.2.2 q hq) ?_
    refine W.widen (k := 600000) (n := 7302250) hc0 hs0 ?_
    exact lw_ret hx hb hr hlocks dL_law_722
  · have hi : i + 4 ≤ L := by
      have hc2 : ¬ (nI L - 4 < nI i) := hc1
      have e1 : nI L - 4 = oI (L - 4) := by rw [nI_oI]; exact oI_sub L 4
      rw [e1, Int32.lt_iff_toInt_lt, nI_toInt (by omega)] at hc2
      unfold oI at hc2
      rw [Int32.toInt_ofInt_of_le (by omega) (by omega)] at hc2
      omega
    have fin : ∀ (σ' : Sig) (μ' : Mst) (H : Heap) (locs : List Loc) (ls : Array Slot), LW s D cI cT cM cZ ad bd σ' μ' H locs → lv_has ls 4 [(0, .ref b), (1, .ref (ad 160)), (2, .ref (bd 0)), (3, .int (nI i))] → W p l e room_1 s m #[Value.ref b] below meth c H locs c0 s0 (lw_Z below #[Value.ref b] s) (F0 m 715 ls []) := by
      intro σ' μ' H locs ls hw hl
      refine lv_iinc (v := nI (i + 4)) (lv' := [(3, .int (nI (i + 4))), (0, .ref b), (1, .ref (ad 160)), (2, .ref (bd 0))]) hx hb dL_law_715 hl (k := 3) rfl (nI_add i 4) (by decide) rfl (fun ls hl => ?_)
      refine lv_goto (tgt := 18) hx hb dL_law_718 (by decide) ?_
      exact next hi σ' μ' H locs ls hw (lv_sub hl [1, 2, 3, 0] rfl)
    refine lv_aload_n hx hb dL_law_26 rfl (lv_at hl 0 rfl) ?_
    refine lv_iload_n hx hb dL_law_27 rfl (lv_at hl 3 rfl) ?_
    refine va_sld hx hb hXs hbl hbA hS (nI_nin (by omega) (by omega)) dL_law_28 ?_
    refine lv_bipush (v := (31 : Int32)) hx hb dL_law_29 (by decide) ?_
    refine lv_iand hx hb dL_law_31 ?_
    refine lv_topi (fun v ev => ?_)
    by_cases hv : v.toInt < 0 ∨ 20 < v.toInt
    · refine lv_tableOut (tgt := 715) hx hb dL_law_32 hv (by decide) ?_
      exact fin σ μ H locs ls hw hl
    · obtain ⟨k, hk20, hk⟩ : ∃ k : Nat, k ≤ 20 ∧ v = nI k := by
        have h0 : ¬ v < 0 := fun z => hv (Or.inl (by rw [Int32.lt_iff_toInt_lt] at z; exact z))
        obtain ⟨j, hj, e⟩ := nI_of h0
        refine ⟨j, ?_, e⟩
        rw [e, nI_toInt hj] at hv
        omega
      rcases (show k = 0 ∨ k = 1 ∨ k = 2 ∨ k = 3 ∨ k = 4 ∨ k = 5 ∨ k = 6 ∨ k = 7 ∨ k = 8 ∨ k = 9 ∨ k = 10 ∨ k = 11 ∨ k = 12 ∨ k = 13 ∨ k = 14 ∨ k = 15 ∨ k = 16 ∨ k = 17 ∨ k = 18 ∨ k = 19 ∨ k = 20 by omega) with rfl | rfl | rfl | rfl | rfl | rfl | rfl | rfl | rfl | rfl | rfl | rfl | rfl | rfl | rfl | rfl | rfl | rfl | rfl | rfl | rfl
      · refine lv_tableIn (off := 100) (tgt := 132) hx hb dL_law_32 (by rw [hk]; decide) (by rw [hk]; decide) (by rw [hk]; rfl) (by decide) ?_
        exact c_told C hc0 hs0 hi fin hw hl
      · refine lv_tableIn (off := 123) (tgt := 155) hx hb dL_law_32 (by rw [hk]; decide) (by rw [hk]; decide) (by rw [hk]; rfl) (by decide) ?_
        exact c_node C hc0 hs0 hi fin hw hl
      · refine lv_tableIn (off := 156) (tgt := 188) hx hb dL_law_32 (by rw [hk]; decide) (by rw [hk]; decide) (by rw [hk]; rfl) (by decide) ?_
        exact c_key C hc0 hs0 hi fin hw hl
      · refine lv_tableIn (off := 189) (tgt := 221) hx hb dL_law_32 (by rw [hk]; decide) (by rw [hk]; decide) (by rw [hk]; rfl) (by decide) ?_
        exact c_at C hc0 hs0 hi fin hw hl
      · refine lv_tableIn (off := 212) (tgt := 244) hx hb dL_law_32 (by rw [hk]; decide) (by rw [hk]; decide) (by rw [hk]; rfl) (by decide) ?_
        exact c_put C hc0 hs0 hi fin hw hl
      · refine lv_tableIn (off := 245) (tgt := 277) hx hb dL_law_32 (by rw [hk]; decide) (by rw [hk]; decide) (by rw [hk]; rfl) (by decide) ?_
        exact c_take C hc0 hs0 hi fin hw hl
      · refine lv_tableIn (off := 268) (tgt := 300) hx hb dL_law_32 (by rw [hk]; decide) (by rw [hk]; decide) (by rw [hk]; rfl) (by decide) ?_
        exact c_worth C hc0 hs0 hi fin hw hl
      · refine lv_tableIn (off := 301) (tgt := 333) hx hb dL_law_32 (by rw [hk]; decide) (by rw [hk]; decide) (by rw [hk]; rfl) (by decide) ?_
        exact c_cut C hc0 hs0 hi fin hw hl
      · refine lv_tableIn (off := 324) (tgt := 356) hx hb dL_law_32 (by rw [hk]; decide) (by rw [hk]; decide) (by rw [hk]; rfl) (by decide) ?_
        exact c_batch C hc0 hs0 hi fin hw hl
      · refine lv_tableIn (off := 367) (tgt := 399) hx hb dL_law_32 (by rw [hk]; decide) (by rw [hk]; decide) (by rw [hk]; rfl) (by decide) ?_
        exact c_rebuild C hc0 hs0 hi fin hw hl
      · refine lv_tableIn (off := 380) (tgt := 412) hx hb dL_law_32 (by rw [hk]; decide) (by rw [hk]; decide) (by rw [hk]; rfl) (by decide) ?_
        exact c_join C hc0 hs0 hi fin hw hl
      · refine lv_tableIn (off := 403) (tgt := 435) hx hb dL_law_32 (by rw [hk]; decide) (by rw [hk]; decide) (by rw [hk]; rfl) (by decide) ?_
        exact c_drift C hc0 hs0 hi fin hw hl
      · refine lv_tableIn (off := 426) (tgt := 458) hx hb dL_law_32 (by rw [hk]; decide) (by rw [hk]; decide) (by rw [hk]; rfl) (by decide) ?_
        exact c_undo C hc0 hs0 hi fin hw hl
      · refine lv_tableIn (off := 449) (tgt := 481) hx hb dL_law_32 (by rw [hk]; decide) (by rw [hk]; decide) (by rw [hk]; rfl) (by decide) ?_
        exact c_less C hc0 hs0 hi fin hw hl
      · refine lv_tableIn (off := 472) (tgt := 504) hx hb dL_law_32 (by rw [hk]; decide) (by rw [hk]; decide) (by rw [hk]; rfl) (by decide) ?_
        exact c_beside C hc0 hs0 hi fin hw hl
      · refine lv_tableIn (off := 505) (tgt := 537) hx hb dL_law_32 (by rw [hk]; decide) (by rw [hk]; decide) (by rw [hk]; rfl) (by decide) ?_
        exact c_between C hc0 hs0 hi fin hw hl
      · refine lv_tableIn (off := 548) (tgt := 580) hx hb dL_law_32 (by rw [hk]; decide) (by rw [hk]; decide) (by rw [hk]; rfl) (by decide) ?_
        exact c_way C hc0 hs0 hi fin hw hl
      · refine lv_tableIn (off := 581) (tgt := 613) hx hb dL_law_32 (by rw [hk]; decide) (by rw [hk]; decide) (by rw [hk]; rfl) (by decide) ?_
        exact c_audit C hc0 hs0 hi fin hw hl
      · refine lv_tableIn (off := 614) (tgt := 646) hx hb dL_law_32 (by rw [hk]; decide) (by rw [hk]; decide) (by rw [hk]; rfl) (by decide) ?_
        exact c_seed C hc0 hs0 hi fin hw hl
      · refine lv_tableIn (off := 637) (tgt := 669) hx hb dL_law_32 (by rw [hk]; decide) (by rw [hk]; decide) (by rw [hk]; rfl) (by decide) ?_
        exact c_keep C hc0 hs0 hi fin hw hl
      · refine lv_tableIn (off := 660) (tgt := 692) hx hb dL_law_32 (by rw [hk]; decide) (by rw [hk]; decide) (by rw [hk]; rfl) (by decide) ?_
        exact c_goBack C hc0 hs0 hi fin hw hl
theorem law_loop {p : Program} {l : Launch} {e : Env} {s : State} {m : MethodId} {below : List Frame} {meth : Method} {c : Code} {D : va_G} {cI cT cM cZ : ClassId} {ad bd : Nat → Nat} {b L : Nat} {xs : Nat → Int32} {c0 s0 : Nat} (C : LC p s m c D cI cT cM cZ ad bd b L xs) (hr : meth.sig.returnType = ret) (hlocks : meth.locks = false) (hc0 : c0 ≤ 600000) (hs0 : s0 ≤ 7302250) :
    ∀ (n i : Nat), L < i + n → i ≤ L + 3 → ∀ (σ : Sig) (μ : Mst) (H : Heap) (locs : List Loc) (ls : Array Slot), LW s D cI cT cM cZ ad bd σ μ H locs → lv_has ls 4 [(0, .ref b), (1, .ref (ad 160)), (2, .ref (bd 0)), (3, .int (nI i))] → W p l e room_1 s m #[Value.ref b] below meth c H locs c0 s0 (lw_Z below #[Value.ref b] s) (F0 m 18 ls [])
  | 0, i, hn, hi, σ, μ, H, locs, ls, hw, hl => law_head C hr hlocks hc0 hs0 hi (fun h => absurd h (by omega)) hw hl
  | n + 1, i, hn, hi, σ, μ, H, locs, ls, hw, hl => law_head C hr hlocks hc0 hs0 hi (fun h σ' μ' H locs ls hw hl => law_loop C hr hlocks hc0 hs0 n (i + 4) (by omega) (by omega) σ' μ' H locs ls hw hl) hw hl
set_option maxHeartbeats 8000000 in
set_option maxRecDepth 100000 in
/-- THE LAW, from its entry -/
theorem whole_start {p : Program} {e : Env} {s : State} {m : MethodId} {below : List Frame} {meth : Method} {c : Code} (l : Launch) (hflags : l.flags = flags0) {b L : Nat} {xs : Nat → Int32} (hL : L ≤ 2048) (C0 : lw_At p s m meth c b L xs) : W p l e room_1 s m #[Value.ref b] below meth c s.heap [] 0 0 (lw_Z below #[Value.ref b] s) (entryFrame m ([Value.ref b] : List Value).toArray 4) := by
  obtain ⟨hx, hb, hr, hml, hown, hts, hXs, hbl, hlocks, hgv⟩ := id C0
  have ht : ∀ w ∈ kt, w.before #[Value.ref b] s = true := fun w hw => hts w (List.mem_filter.mp hw).1
  have hA : ∀ q : Nat, s.heap.size ≤ q → (fun q : Nat => s.heap.size ≤ q) q := fun _ h => h
  obtain ⟨k1, j1, hK1⟩ := u_known (C := RX1) (T := TX1) (N := 3) (n := 3) ht i_X1 (ht _ kIS_RX1)
  obtain ⟨k2, j2, hK2⟩ := u_known (C := RX2) (T := TX2) (N := 1) (n := 1) ht i_X2 (ht _ kIS_RX2)
  obtain ⟨k3, j3, hK3⟩ := u_known (C := RX3) (T := TX3) (N := 3) (n := 3) ht i_X3 (ht _ kIS_RX3)
  obtain ⟨k4, j4, hK4⟩ := u_known (C := RX4) (T := TX4) (N := 8) (n := 8) ht i_X4 (ht _ kIS_RX4)
  obtain ⟨k5, j5, hK5⟩ := u_known (C := RX5) (T := TX5) (N := 3) (n := 3) ht i_X5 (ht _ kIS_RX5)
  obtain ⟨k7, j7, hK7⟩ := u_known (C := RX7) (T := TX7) (N := 3) (n := 3) ht i_X7 (ht _ kIS_RX7)
  obtain ⟨k8, j8, hK8⟩ := u_known (C := RX8) (T := TX8) (N := 5) (n := 5) ht i_X8 (ht _ kIS_RX8)
  obtain ⟨k9, j9, hK9⟩ := u_known (C := RX9) (T := TX9) (N := 16) (n := 16) ht i_X9 (ht _ kIS_RX9)
  obtain ⟨D, hDk⟩ : ∃ D : va_G, ∀ (k : Nat) (q : vw_C), vwCl[k]? = some q → u_Kn s q.1 q.2.1 q.2.2 (D.1 k) (D.2 k) := by
    refine ⟨(fun k => match k with | 0 => k1 | 1 => k2 | 2 => k3 | 3 => k4 | 4 => k5 | 5 => k7 | 6 => k8 | _ => k9, fun k => match k with | 0 => j1 | 1 => j2 | 2 => j3 | 3 => j4 | 4 => j5 | 5 => j7 | 6 => j8 | _ => j9), ?_⟩
    intro k q hq
    match k, hq with
    | 0, hq => cases hq; exact hK1
    | 1, hq => cases hq; exact hK2
    | 2, hq => cases hq; exact hK3
    | 3, hq => cases hq; exact hK4
    | 4, hq => cases hq; exact hK5
    | 5, hq => cases hq; exact hK7
    | 6, hq => cases hq; exact hK8
    | 7, hq => cases hq; exact hK9
    | k + 8, hq => simp [vwCl] at hq
  obtain ⟨cI, kI, oI', i1, i2, i3⟩ := Cond.arrayClass_spec (ht _ kAC_66)
  obtain ⟨cZ, kZ, oZ, z1, z2, z3⟩ := Cond.arrayClass_spec (ht _ kAC_649)
  have hO7 : va_AO RX7 s := va_AO.of (hts (.arrayOver (.object RX7)) (by decide +kernel))
  have hO3 : va_AO RX3 s := va_AO.of (hts (.arrayOver (.object RX3)) (by decide +kernel))
  obtain ⟨oT, cT, kT', t1, t2, t3, t4, t5⟩ := Cond.arrayOver_spec hO7
  obtain ⟨oM, cM, kM', m1, m2, m3, m4, m5⟩ := Cond.arrayOver_spec hO3
  have hKc : va_K D vwCl (cTy cI cT cM) s := by
    refine ⟨hDk, fun k q hq => ?_⟩
    match k, hq with
    | 0, hq => cases hq; exact ⟨fun n z => ⟨fun k h => (by cases h), kI, i2, oI', i3⟩, i1⟩
    | 1, hq => cases hq; exact ⟨fun n z => ⟨fun k h => (by cases h), kT', t3, oT, t4⟩, kT', oT, t3, t4, t1, t5⟩
    | 2, hq => cases hq; exact ⟨fun n z => ⟨fun k h => (by cases h), kM', m3, oM, m4⟩, kM', oM, m3, m4, m1, m5⟩
    | k + 3, hq => simp [cTy] at hq
  have hKm : va_K D vwCl (mTy cI cZ) s := by
    refine ⟨hDk, fun k q hq => ?_⟩
    match k, hq with
    | 0, hq => cases hq; exact ⟨fun n z => ⟨fun k h => (by cases h), kI, i2, oI', i3⟩, i1⟩
    | 1, hq => cases hq; exact ⟨fun n z => ⟨fun k h => (by cases h), kZ, z2, oZ, z3⟩, z1⟩
    | k + 2, hq => simp [mTy] at hq
  have hNw : va_Nw (.methodLinkNest RX6 84 yX8_isWithin RX8) s := va_Nw.of rfl (hts (.methodLinkNest RX6 84 yX8_isWithin RX8) (by decide +kernel))
  have hN : (va_Nw (.methodLinkNest RX8 9 yX7_init RX8) s ∧ va_Nw (.methodLinkNest RX8 28 yX2_init RX8) s ∧ va_Nw (.methodLinkNest RX8 39 yX3_init RX8) s ∧ va_Nw (.methodLinkNest RX3 9 yX7_init RX8) s ∧ va_Nw (.methodLinkNest RX5 24 yX7_init RX8) s ∧ va_Nw (.methodLinkNest RX7 20 yX1_init RX8) s) ∧ va_AO RX7 s ∧ va_AO RX3 s :=
    ⟨⟨va_Nw.of rfl (hts (.methodLinkNest RX8 9 yX7_init RX8) (by decide +kernel)), va_Nw.of rfl (hts (.methodLinkNest RX8 28 yX2_init RX8) (by decide +kernel)), va_Nw.of rfl (hts (.methodLinkNest RX8 39 yX3_init RX8) (by decide +kernel)), va_Nw.of rfl (hts (.methodLinkNest RX3 9 yX7_init RX8) (by decide +kernel)), va_Nw.of rfl (hts (.methodLinkNest RX5 24 yX7_init RX8) (by decide +kernel)), va_Nw.of rfl (hts (.methodLinkNest RX7 20 yX1_init RX8) (by decide +kernel))⟩, hO7, hO3⟩
  have hXc : kX D (cTy cI cT cM) s := ⟨hKc, hNw⟩
  have hXm : kX D (mTy cI cZ) s := ⟨hKm, hNw⟩
  have hS : va_S (fun q : Nat => s.heap.size ≤ q) s.heap s.heap [] := va_S.rf
  have hP : va_P D vwCl [] s.heap := fun k q h => by simp at h
  have hD : va_D (fun q : Nat => s.heap.size ≤ q) [] := ⟨fun i j p q h => by simp at h, fun k q h => by simp at h⟩
  have hl := lv_entry ([.ref b]) (n := 4) (Nat.le_of_ble_eq_true rfl)
  rw [lg_entry_eq]
  generalize (lg_sl ([.ref b]) ++ List.replicate (4 - (lg_sl ([.ref b])).length) Slot.unset).toArray = ls at hl ⊢
  have hl : lv_has ls 4 [(0, .ref b)] := hl
  refine ct_mk (own := RL) (rest := []) (fs := [.null, .null, .null, .null, .null]) (nX8 (cI := cI) (cT := cT) (cM := cM)) hx hb hml hown ht (⟨hXc, hN⟩) hP hD hS hA rfl i_X8 tyX8 tyX8_ok kCL_RL_7 kIS_RX8 kIN_RX8 rfl (fun j hj => by rcases (show j = 0 ∨ j = 1 ∨ j = 2 ∨ j = 3 ∨ j = 4 by omega) with rfl | rfl | rfl | rfl | rfl <;> rfl) kCO_yX8_init kIM_yX8_init rfl ⟨by decide +kernel, by decide +kernel, by decide +kernel⟩ (Or.inl kML_RL_9) rfl rfl ⟨Nat.le_of_ble_eq_true rfl, Nat.le_of_ble_eq_true rfl⟩ (by decide) (by decide) hl.1 (Nat.le_of_ble_eq_true rfl) dL_law_0 dL_law_3 dL_law_4 (fun q H locs hP hD hS => ?_)
  refine lv_astore_n (lv' := [(1, .ref (q 0)), (0, .ref b)]) hx hb dL_law_7 rfl hl (by decide) rfl (fun ls hl => ?_)
  refine ct_mk (own := RL) (rest := []) (fs := [.null, .null, .int 0, .null, .null, .null, .int 0, .null, .null, .null, .null, .null, .null, .null, .null, .null]) (nX9 (cI := cI) (cZ := cZ)) hx hb hml hown ht (⟨hXm, hN⟩) hP hD hS hA rfl i_X9 tyX9 tyX9_ok kCL_RL_10 kIS_RX9 kIN_RX9 rfl (fun j hj => by rcases (show j = 0 ∨ j = 1 ∨ j = 2 ∨ j = 3 ∨ j = 4 ∨ j = 5 ∨ j = 6 ∨ j = 7 ∨ j = 8 ∨ j = 9 ∨ j = 10 ∨ j = 11 ∨ j = 12 ∨ j = 13 ∨ j = 14 ∨ j = 15 by omega) with rfl | rfl | rfl | rfl | rfl | rfl | rfl | rfl | rfl | rfl | rfl | rfl | rfl | rfl | rfl | rfl <;> rfl) kCO_yX9_init kIM_yX9_init rfl ⟨by decide +kernel, by decide +kernel, by decide +kernel⟩ (Or.inl kML_RL_12) rfl rfl ⟨Nat.le_of_ble_eq_true rfl, Nat.le_of_ble_eq_true rfl⟩ (by decide) (by decide) hl.1 (Nat.le_of_ble_eq_true rfl) dL_law_8 dL_law_11 dL_law_12 (fun bd H locs hP hD hS => ?_)
  refine lv_astore_n (lv' := [(2, .ref (bd 0)), (1, .ref (q 0)), (0, .ref b)]) hx hb dL_law_15 rfl hl (by decide) rfl (fun ls hl => ?_)
  refine lv_iconst (v := 0) hx hb dL_law_16 (by decide) ?_
  refine lv_istore_n (lv' := [(3, .int 0), (2, .ref (bd 0)), (1, .ref (q 0)), (0, .ref b)]) hx hb dL_law_17 rfl hl (by decide) rfl (fun ls hl => ?_)
  rw [List.nil_append] at hP hD
  have hlen : (gw 167 q (cf8 cI cT cM q)).length = 167 := gw_len ..
  have hPl : va_P D vwCl (gw 167 q (cf8 cI cT cM q)) H := fun k x hk => hP k x (by rw [List.getElem?_append_left (List.getElem?_eq_some_iff.mp hk).1]; exact hk)
  have hPr : va_P D vwCl (gw 15 bd (cf9 cI cZ (flat ta0) bd)) H := fun k x hk => hP (167 + k) x (by rw [List.getElem?_append_right (by omega), hlen, Nat.add_sub_cancel_left]; exact hk)
  have at1 : ∀ k, k < 167 → (gw 167 q (cf8 cI cT cM q) ++ gw 15 bd (cf9 cI cZ (flat ta0) bd))[k]? = some (q k, cf8 cI cT cM q k) := fun k hk => by rw [List.getElem?_append_left (by omega)]; exact gw_at hk rfl
  have at2 : ∀ k, k < 15 → (gw 167 q (cf8 cI cT cM q) ++ gw 15 bd (cf9 cI cZ (flat ta0) bd))[167 + k]? = some (bd k, cf9 cI cZ (flat ta0) bd k) := fun k hk => by rw [List.getElem?_append_right (by omega), hlen, Nat.add_sub_cancel_left]; exact gw_at hk rfl
  have hq : gInj 167 q := fun i j hi hj e => hD.1 i j _ _ (at1 i hi) (at1 j hj) e
  have hbd : gInj 15 bd := fun i j hi hj e => by
    have := hD.1 (167 + i) (167 + j) _ _ (at2 i hi) (at2 j hj) e
    omega
  have hdis : ∀ k j, k < 167 → j < 15 → q (pi8 k) ≠ bd j := fun k j hk hj e => by
    have hp := pi8_lt ⟨k, hk⟩
    have := hD.1 (pi8 k) (167 + j) _ _ (at1 _ hp) (at2 j hj) e
    have hp' : pi8 k < 167 := hp
    omega
  have hA1 : ∀ z, gA 167 (fun k => q (pi8 k)) z → s.heap.size ≤ z := by
    rintro z ⟨k, hk, rfl⟩
    exact hD.2 (pi8 k) _ (at1 _ (pi8_lt ⟨k, hk⟩))
  have hB1 : ∀ z, gA 15 bd z → s.heap.size ≤ z := by
    rintro z ⟨k, hk, rfl⟩
    exact hD.2 (167 + k) _ (at2 k hk)
  have C : LC p s m c D cI cT cM cZ (fun k => q (pi8 k)) bd b L xs := ⟨hx, hb, hml, hown, ht, hXc, hXm, cw_inj hq, hbd, hA1, hB1, hdis, hXs, hbl, hL⟩
  have hl4 : lv_has ls 4 [(0, .ref b), (1, .ref (q (pi8 160))), (2, .ref (bd 0)), (3, .int (nI 0))] := lv_sub hl [3, 2, 1, 0] rfl
  refine W.widen (k := 600000) (n := 7302250) (by decide) (by decide) ?_
  exact law_loop C hr hlocks (Nat.le_refl _) (Nat.le_refl _) (L + 1) 0 (by omega) (by omega) sg0 (0, 0, flat ta0, fun _ => 0, fun _ => 0, fun _ => 0, fun _ => 0, fun _ => 0, fun _ => 0, fun _ => 0, fun _ => 0, fun _ => 0, fun _ => 0, fun _ => 0, fun _ => 0, fun _ => 0) H _ ls ⟨rel_start, cw_of hPl, hPr, hS⟩ hl4
