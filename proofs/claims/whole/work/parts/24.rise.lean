/-! ===== a key has come: mending upwards ===== -/
theorem tsl_nd2_mem {d : Bool} {r s : Nat} {k : Int32} {a b : Gt} {q : Nat} : q ∈ tsl (nd2 d r s k a b) ↔ (q = s ∨ q ∈ tsl a ∨ q ∈ tsl b) := by
  rw [(tsl_nd2 d r s k a b).mem_iff, List.mem_cons, List.mem_append]
theorem tks_rot (d : Bool) (rp p rx x rp' rx' : Nat) (kp kx : Int32) (A B C : Gt) : tks (nd2 d rx' x kx A (nd2 d rp' p kp B C)) = tks (nd2 d rp p kp (nd2 d rx x kx A B) C) := by
  cases d <;> simp [nd2, tks]
/-- what a mending keeps -/
def kp (τ τ' : Tau) : Prop := τ' 0 = τ 0 ∧ τ' 1 = τ 1 ∧ τ' 6 1 = τ 6 1
theorem up_single {F : Nat} {A0 : Nat → Int32} {τ τm : Tau} {d : Bool} {rp p rx x : Nat} {kp' kx : Int32} {A Y C : Gt} {c : List Fr} (h : rep τ (nd2 d (rp + 1) p kp' (nd2 d rx x kx A Y) C) (cpar c)) (hc : repc τ c (nI p)) (hn : apt (nd2 d (rp + 1) p kp' (nd2 d rx x kx A Y) C) c) (hs : sm A0 τ τm) (hy : (rx : Int) - trk Y = 2) :
    ∃ τ' τm', fX7_turnAfterAdding F τ (nI p) (nI x) (b2i d) = some τ' ∧ fX9_turnsUp F (flat τm) (nI x) (nI p) (trt Y) = some (flat τm') ∧ sm A0 τ' τm' ∧ rep τ' (nd2 d rx x kx A (nd2 d rp p kp' Y C)) (cpar c) ∧ repc τ' c (nI x) ∧ apt (nd2 d rx x kx A (nd2 d rp p kp' Y C)) c ∧ kp τ τ' := by
  obtain ⟨g1, g2, g3⟩ := rot_ok h hc hn
  have t1 := (c_turn (F := F) h hc hn).1
  have t2 := (c_turn (F := F) (sm_rep hs h) (sm_repc hs hc) hn).2
  obtain ⟨hp60, hk, hr, hl, ho, hpp, hX, hC⟩ := rep_nd2.mp h
  obtain ⟨hx60, hkx, hrx, hlx, hox, hpx, hA, hB⟩ := rep_nd2.mp hX
  have hnn := apt_nd2.mp hn
  have hpn := (List.nodup_cons.mp hnn).1
  have pc : p ∉ csl c := fun e => hpn (by simp [e])
  have pX : p ∉ tsl (nd2 d rx x kx A Y) := fun e => hpn (by simp [e])
  have pC : p ∉ tsl C := fun e => hpn (by simp [e])
  have px : x ≠ p := fun e => pX (tsl_nd2_mem.mpr (Or.inl e.symm))
  have pA : p ∉ tsl A := fun e => pX (tsl_nd2_mem.mpr (Or.inr (Or.inl e)))
  have pY : p ∉ tsl Y := fun e => pX (tsl_nd2_mem.mpr (Or.inr (Or.inr e)))
  generalize hR : rotT τ d p x Y c = R at *
  have hs1 := sm_rot hs d p x Y c
  rw [hR] at hs1
  generalize hRm : rotT τm d p x Y c = Rm at *
  have hs2 := sm_cnt hs1 (show 2 < 3 by omega)
  have hs3 := sm_add hs2 p (-1)
  have e2 : u2 R 8 2 (R 8 2 + 1) 2 p = nI (rp + 1) := by
    rw [u2_row _ _ (by omega), ← hR, rot_row _ _ _ _ _ _ (by omega)]; exact hr
  refine ⟨u2 (u2 R 8 2 (R 8 2 + 1)) 2 p (u2 R 8 2 (R 8 2 + 1) 2 p + -1), _, ?_, ?_, hs3, ?_, ?_, ?_, ?_⟩
  · have h14 : fX7_turnAfterAdding_14 F τ (nI p) (nI x) (nI x) (b2i (!d)) = some (u2 (u2 R 8 2 (R 8 2 + 1)) 2 p (u2 R 8 2 (R 8 2 + 1) 2 p + -1)) := by
      unfold fX7_turnAfterAdding_14
      rw [cg_child hx60, hox]
      show (fX4_step F τ (nI x) (trt Y)).bind _ = _
      rw [cg_st hx60 hrx hB, hy, Option.bind_some, if_neg (by decide), t1]
      show fX7_turnAfterAdding_107 F _ (nI p) = _
      unfold fX7_turnAfterAdding_107
      rw [cg_addRank hp60]; rfl
    unfold fX7_turnAfterAdding
    cases d
    · exact h14
    · exact h14
  · unfold fX9_turnsUp
    rw [mg_st hx60 (by rw [hs.1 2 (by omega)]; exact hrx) (sm_rep hs hB), hy, Option.bind_some, if_pos (by decide), t2]
    show (fX9_ranks F (flat _) (nI p) (-1)).bind _ = _
    rw [mg_ranks hp60]; rfl
  · rw [e2, nI_less]
    have := rep_setR p rp (rep_row (τ' := u2 R 8 2 (R 8 2 + 1)) g1 (fun r hr => u2_row _ _ (by omega)))
    rw [setR_nd2, setR_nd2, if_neg px, if_pos rfl, setR_no p rp pA, setR_no p rp pY, setR_no p rp pC] at this
    exact this
  · exact repc_u2 (repc_row g2 (fun r hr => u2_row _ _ (by omega))) pc
  · rw [apt_nd2] at g3 ⊢
    have hperm : (tsl (nd2 d (rp + 1) p kp' Y C)).Perm (tsl (nd2 d rp p kp' Y C)) := (tsl_nd2 d (rp + 1) p kp' Y C).trans (tsl_nd2 d rp p kp' Y C).symm
    exact (List.Perm.cons x ((hperm.append_right (csl c)).append_left (tsl A))).nodup g3
  · refine ⟨?_, ?_, ?_⟩
    · rw [u2_row _ _ (by omega), u2_row _ _ (by omega), ← hR, rot_row _ _ _ _ _ _ (by omega)]
    · rw [u2_row _ _ (by omega), u2_row _ _ (by omega), ← hR, rot_row _ _ _ _ _ _ (by omega)]
    · rw [u2_row _ _ (by omega), u2_row _ _ (by omega), ← hR, rot_61]
theorem apt_perm {t t' : Gt} {c : List Fr} (h : apt t c) (hp : (tsl t).Perm (tsl t')) : apt t' c := (hp.append_right (csl c)).nodup h
theorem apt_up {d : Bool} {r s : Nat} {k : Int32} {t o : Gt} {c : List Fr} : apt t ((d, r, s, k, o) :: c) ↔ apt (nd2 d r s k t o) c := by
  unfold apt
  have : (tsl t ++ csl ((d, r, s, k, o) :: c)).Perm (tsl (nd2 d r s k t o) ++ csl c) := by
    refine List.Perm.trans ?_ ((tsl_nd2 d r s k t o).append_right _).symm
    show (tsl t ++ s :: (tsl o ++ csl c)).Perm _
    simp only [List.cons_append, List.append_assoc]
    exact List.perm_middle
  exact this.nodup_iff
/-- the inner one turns twice: over x, then over p -/
theorem dbl_ok {F : Nat} {A0 : Nat → Int32} {τ τm : Tau} {d : Bool} {rp p rx x ry y : Nat} {kp' kx ky : Int32} {A Y1 Y2 C : Gt} {c : List Fr} (h : rep τ (nd2 d rp p kp' (nd2 d rx x kx A (nd2 d ry y ky Y1 Y2)) C) (cpar c)) (hc : repc τ c (nI p)) (hn : apt (nd2 d rp p kp' (nd2 d rx x kx A (nd2 d ry y ky Y1 Y2)) C) c) (hs : sm A0 τ τm) :
    ∃ τ1 τ2 m1 m2, fX4_turnOverParent F τ (nI y) = some τ1 ∧ fX4_turnOverParent F τ1 (nI y) = some τ2 ∧ fX9_turns F (flat τm) (nI y) = some (flat m1) ∧ fX9_turns F (flat m1) (nI y) = some (flat m2) ∧ sm A0 (u2 τ2 8 2 (τ2 8 2 + 2)) m2 ∧
      rep τ2 (nd2 d ry y ky (nd2 d rx x kx A Y1) (nd2 d rp p kp' Y2 C)) (cpar c) ∧ repc τ2 c (nI y) ∧ apt (nd2 d ry y ky (nd2 d rx x kx A Y1) (nd2 d rp p kp' Y2 C)) c ∧ τ2 0 = τ 0 ∧ τ2 1 = τ 1 ∧ τ2 2 = τ 2 ∧ τ2 6 1 = τ 6 1 := by
  -- the first turn: y over x, at the hole below p
  have hX : nd2 d rx x kx A (nd2 d ry y ky Y1 Y2) = nd2 (!d) rx x kx (nd2 (!d) ry y ky Y2 Y1) A := by rw [nd2_not, nd2_not]
  obtain ⟨hp60, hk, hr, hl, ho, hpp, hXr, hC⟩ := rep_nd2.mp h
  have hc1 : repc τ ((d, rp, p, kp', C) :: c) (nI x) := by
    refine ⟨hp60, hk, hr, ?_, ho, hpp, hC, hc⟩
    rw [hl, trt_nd2]
  have hXr' : rep τ (nd2 (!d) rx x kx (nd2 (!d) ry y ky Y2 Y1) A) (cpar ((d, rp, p, kp', C) :: c)) := by rw [← hX]; exact hXr
  have hn1 : apt (nd2 (!d) rx x kx (nd2 (!d) ry y ky Y2 Y1) A) ((d, rp, p, kp', C) :: c) := by rw [← hX]; exact apt_up.mpr hn
  obtain ⟨f1, f2, f3⟩ := rot_ok hXr' hc1 hn1
  have t1 := (c_turn (F := F) hXr' hc1 hn1).1
  have m1 := (c_turn (F := F) (sm_rep hs hXr') (sm_repc hs hc1) hn1).2
  -- the second: y over p
  have hY : nd2 (!d) ry y ky Y2 (nd2 (!d) rx x kx Y1 A) = nd2 d ry y ky (nd2 d rx x kx A Y1) Y2 := by rw [nd2_not, nd2_not]
  rw [hY] at f1 f3
  have hs1 := sm_rot hs (!d) x y Y1 ((d, rp, p, kp', C) :: c)
  generalize hR : rotT τ (!d) x y Y1 ((d, rp, p, kp', C) :: c) = R at *
  generalize hRm : rotT τm (!d) x y Y1 ((d, rp, p, kp', C) :: c) = Rm at *
  have h2 : rep R (nd2 d rp p kp' (nd2 d ry y ky (nd2 d rx x kx A Y1) Y2) C) (cpar c) ∧ repc R c (nI p) := by
    obtain ⟨e1, e2, e3, e4, e5, e6, e7, e8⟩ := f2
    exact ⟨rep_nd2.mpr ⟨e1, e2, e3, by rw [trt_nd2]; exact e4, e5, e6, f1, e7⟩, e8⟩
  have hn2 := apt_up.mp f3
  obtain ⟨g1, g2, g3⟩ := rot_ok h2.1 h2.2 hn2
  have t2 := (c_turn (F := F) h2.1 h2.2 hn2).1
  have m2 := (c_turn (F := F) (rep_row (sm_rep hs1 h2.1) (fun r hr => cntM_row Rm 2 (by omega))) (repc_row (sm_repc hs1 h2.2) (fun r hr => cntM_row Rm 2 (by omega))) hn2).2
  rw [rot_cnt] at m2
  have hs2 := sm_rot hs1 d p y Y2 c
  refine ⟨R, rotT R d p y Y2 c, cntM Rm 2, cntM (cntM (rotT Rm d p y Y2 c) 2) 2, t1, t2, m1, m2, sm_cnt2 hs2, g1, g2, g3, ?_, ?_, ?_, ?_⟩
  · rw [rot_row _ _ _ _ _ _ (by omega), ← hR, rot_row _ _ _ _ _ _ (by omega)]
  · rw [rot_row _ _ _ _ _ _ (by omega), ← hR, rot_row _ _ _ _ _ _ (by omega)]
  · rw [rot_row _ _ _ _ _ _ (by omega), ← hR, rot_row _ _ _ _ _ _ (by omega)]
  · rw [rot_61, ← hR, rot_61]
theorem up_double {F : Nat} {A0 : Nat → Int32} {τ τm : Tau} {d : Bool} {rp p rx x ry y : Nat} {kp' kx ky : Int32} {A Y1 Y2 C : Gt} {c : List Fr} (h : rep τ (nd2 d (rp + 1) p kp' (nd2 d (rx + 1) x kx A (nd2 d ry y ky Y1 Y2)) C) (cpar c)) (hc : repc τ c (nI p)) (hn : apt (nd2 d (rp + 1) p kp' (nd2 d (rx + 1) x kx A (nd2 d ry y ky Y1 Y2)) C) c) (hs : sm A0 τ τm) (hy : (rx : Int) + 1 - ry = 1) :
    ∃ τ' τm', fX7_turnAfterAdding F τ (nI p) (nI x) (b2i d) = some τ' ∧ fX9_turnsUp F (flat τm) (nI x) (nI p) (nI y) = some (flat τm') ∧ sm A0 τ' τm' ∧ rep τ' (nd2 d (ry + 1) y ky (nd2 d rx x kx A Y1) (nd2 d rp p kp' Y2 C)) (cpar c) ∧ repc τ' c (nI y) ∧ apt (nd2 d (ry + 1) y ky (nd2 d rx x kx A Y1) (nd2 d rp p kp' Y2 C)) c ∧ kp τ τ' := by
  obtain ⟨τ1, τ2, m1, m2, a1, a2, b1, b2, hs2, g1, g2, g3, k0, k1, k2, k6⟩ := dbl_ok (F := F) h hc hn hs
  obtain ⟨hp60, hk, hr, hl, ho, hpp, hX, hC⟩ := rep_nd2.mp h
  obtain ⟨hx60, hkx, hrx, hlx, hox, hpx, hA, hB⟩ := rep_nd2.mp hX
  obtain ⟨hy60, hky, hry, hly, hoy, hpy, hY1, hY2⟩ := rep_nd2.mp hB
  rw [trt_nd2] at hox
  have g3' := apt_nd2.mp g3
  have hyn := (List.nodup_cons.mp g3').1
  have hn1 := List.nodup_append.mp (List.nodup_cons.mp g3').2
  have yX : y ∉ tsl (nd2 d (rx + 1) x kx A Y1) := fun e => hyn (by simp [e])
  have yP : y ∉ tsl (nd2 d (rp + 1) p kp' Y2 C) := fun e => hyn (by simp [e])
  have yc : y ∉ csl c := fun e => hyn (by simp [e])
  have xm : x ∈ tsl (nd2 d (rx + 1) x kx A Y1) := tsl_nd2_mem.mpr (Or.inl rfl)
  have pm : p ∈ tsl (nd2 d (rp + 1) p kp' Y2 C) := tsl_nd2_mem.mpr (Or.inl rfl)
  have xP : x ∉ tsl (nd2 d (rp + 1) p kp' Y2 C) := fun e => hn1.2.2 x xm x (by simp [e]) rfl
  have xc : x ∉ csl c := fun e => hn1.2.2 x xm x (by simp [e]) rfl
  have hn2 := List.nodup_append.mp hn1.2.1
  have pc : p ∉ csl c := fun e => hn2.2.2 p pm p e rfl
  have pX : p ∉ tsl (nd2 d (rx + 1) x kx A Y1) := fun e => hn1.2.2 p e p (by simp [pm]) rfl
  have xy : y ≠ x := fun e => yX (e ▸ xm)
  have py : y ≠ p := fun e => yP (e ▸ pm)
  have xp : x ≠ p := fun e => xP (e ▸ pm)
  have hnx : (x :: (tsl A ++ tsl Y1)).Nodup := (tsl_nd2 d (rx + 1) x kx A Y1).nodup hn1.1
  have hnp : (p :: (tsl Y2 ++ tsl C)).Nodup := (tsl_nd2 d (rp + 1) p kp' Y2 C).nodup hn2.1
  have xA : x ∉ tsl A := fun e => (List.nodup_cons.mp hnx).1 (by simp [e])
  have xY1 : x ∉ tsl Y1 := fun e => (List.nodup_cons.mp hnx).1 (by simp [e])
  have pY2 : p ∉ tsl Y2 := fun e => (List.nodup_cons.mp hnp).1 (by simp [e])
  have pC : p ∉ tsl C := fun e => (List.nodup_cons.mp hnp).1 (by simp [e])
  have mem1 : ∀ {d r s k a b q}, q ∉ tsl (nd2 d r s k a b) → q ∉ tsl a ∧ q ∉ tsl b ∧ s ≠ q := fun h => ⟨fun e => h (tsl_nd2_mem.mpr (Or.inr (Or.inl e))), fun e => h (tsl_nd2_mem.mpr (Or.inr (Or.inr e))), fun e => h (tsl_nd2_mem.mpr (Or.inl e.symm))⟩
  generalize hT : u2 τ2 8 2 (τ2 8 2 + 2) = T at hs2
  have hTr : ∀ r, r ≤ 6 → T r = τ2 r := fun r hr => by rw [← hT, u2_row _ _ (by omega)]
  have e2y : T 2 y = nI ry := by rw [hTr 2 (by omega), k2]; exact hry
  have hs3 := sm_add hs2 y 1
  have hs4 := sm_add hs3 x (-1)
  have hs5 := sm_add hs4 p (-1)
  have e3 : T 2 y + 1 = nI (ry + 1) := by rw [e2y, nI_1]
  have e4 : u2 T 2 y (T 2 y + 1) 2 x + -1 = nI rx := by
    rw [u2_ne _ _ (Or.inr (Ne.symm xy)), hTr 2 (by omega), k2, hrx, nI_less]
  have e5 : u2 (u2 T 2 y (T 2 y + 1)) 2 x (u2 T 2 y (T 2 y + 1) 2 x + -1) 2 p + -1 = nI rp := by
    rw [u2_ne _ _ (Or.inr (Ne.symm xp)), u2_ne _ _ (Or.inr (Ne.symm py)), hTr 2 (by omega), k2, hr, nI_less]
  refine ⟨_, _, ?_, ?_, hs5, ?_, ?_, ?_, ?_⟩
  · have h14 : fX7_turnAfterAdding_14 F τ (nI p) (nI x) (nI x) (b2i (!d)) = some (u2 (u2 (u2 T 2 y (T 2 y + 1)) 2 x (u2 T 2 y (T 2 y + 1) 2 x + -1)) 2 p (u2 (u2 T 2 y (T 2 y + 1)) 2 x (u2 T 2 y (T 2 y + 1) 2 x + -1) 2 p + -1)) := by
      unfold fX7_turnAfterAdding_14
      rw [cg_child hx60, hox]
      show (fX4_step F τ (nI x) (nI y)).bind _ = _
      have hst := cg_st (F := F) hx60 hrx hB
      rw [trt_nd2, trk_nd2] at hst
      rw [hst, show ((rx + 1 : Nat) : Int) - (ry : Int) = 1 by omega, Option.bind_some, if_pos (by decide), a1]
      show (fX4_turnOverParent F τ1 (nI y)).bind _ = _
      rw [a2]
      show (fX4_addRank F (u2 τ2 8 2 (τ2 8 2 + 2)) (nI y) 1).bind _ = _
      rw [hT, cg_addRank hy60]
      show (fX4_addRank F _ (nI x) (-1)).bind _ = _
      rw [cg_addRank hx60]
      show fX7_turnAfterAdding_107 F _ (nI p) = _
      unfold fX7_turnAfterAdding_107
      rw [cg_addRank hp60]; rfl
    unfold fX7_turnAfterAdding
    cases d
    · exact h14
    · exact h14
  · unfold fX9_turnsUp
    have hst := mg_st (F := F) hx60 (show τm 2 x = nI (rx + 1) by rw [hs.1 2 (by omega)]; exact hrx) (sm_rep hs hB)
    rw [trt_nd2, trk_nd2] at hst
    rw [hst, show ((rx + 1 : Nat) : Int) - (ry : Int) = 1 by omega, Option.bind_some, if_neg (by decide), b1]
    show (fX9_turns F (flat m1) (nI y)).bind _ = _
    rw [b2]
    show (fX9_ranks F (flat m2) (nI y) 1).bind _ = _
    rw [mg_ranks hy60]
    show (fX9_ranks F (flat _) (nI x) (-1)).bind _ = _
    rw [mg_ranks hx60]
    show (fX9_ranks F (flat _) (nI p) (-1)).bind _ = _
    rw [mg_ranks hp60]; rfl
  · rw [e5, e4, e3]
    have r1 := rep_setR p rp (rep_setR x rx (rep_setR y (ry + 1) (rep_row (τ' := T) g1 (fun r hr => hTr r (by omega)))))
    obtain ⟨y1, y2, y3⟩ := mem1 yX
    obtain ⟨y4, y5, y6⟩ := mem1 yP
    obtain ⟨x1, x2, x3⟩ := mem1 xP
    obtain ⟨p1, p2, p3⟩ := mem1 pX
    simp only [setR_nd2, setR_no y _ y1, setR_no y _ y2, setR_no y _ y4, setR_no y _ y5, setR_no x _ xA, setR_no x _ xY1, setR_no x _ x1, setR_no x _ x2, setR_no p _ p1, setR_no p _ p2, setR_no p _ pY2, setR_no p _ pC, if_true, if_false, xy, py, xp, y3, y6, x3, p3] at r1
    exact r1
  · exact repc_u2 (repc_u2 (repc_u2 (repc_row g2 (fun r hr => hTr r hr)) yc) xc) pc
  · refine apt_perm g3 ?_
    refine (tsl_nd2 _ _ _ _ _ _).trans (List.Perm.trans ?_ (tsl_nd2 _ _ _ _ _ _).symm)
    refine List.Perm.cons _ (List.Perm.append ?_ ?_)
    · exact (tsl_nd2 _ _ _ _ _ _).trans (tsl_nd2 _ _ _ _ _ _).symm
    · exact (tsl_nd2 _ _ _ _ _ _).trans (tsl_nd2 _ _ _ _ _ _).symm
  · refine ⟨?_, ?_, ?_⟩
    · rw [u2_row _ _ (by omega), u2_row _ _ (by omega), u2_row _ _ (by omega), hTr 0 (by omega), k0]
    · rw [u2_row _ _ (by omega), u2_row _ _ (by omega), u2_row _ _ (by omega), hTr 1 (by omega), k1]
    · rw [u2_row _ _ (by omega), u2_row _ _ (by omega), u2_row _ _ (by omega), hTr 6 (by omega), k6]
