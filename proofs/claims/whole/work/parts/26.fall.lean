/-! ===== a key has gone: turns, and the way up ===== -/
theorem u2_u2 (τ : Tau) (c k : Nat) (v w : Int32) : u2 (u2 τ c k v) c k w = u2 τ c k w := by
  funext a b
  simp only [u2_app]
  by_cases h : a = c ∧ b = k <;> simp [h]
theorem mem_nd2 {d : Bool} {r s : Nat} {k : Int32} {a b : Gt} {q : Nat} (h : q ∉ tsl (nd2 d r s k a b)) : q ∉ tsl a ∧ q ∉ tsl b ∧ s ≠ q := ⟨fun e => h (tsl_nd2_mem.mpr (Or.inr (Or.inl e))), fun e => h (tsl_nd2_mem.mpr (Or.inr (Or.inr e))), fun e => h (tsl_nd2_mem.mpr (Or.inl e.symm))⟩
theorem trt_m1 {t : Gt} {τ : Tau} {p : Int32} (h : rep τ t p) : trt t = -1 ↔ t = .leaf := by
  cases t with
  | leaf => exact ⟨fun _ => rfl, fun _ => rfl⟩
  | inner r s k a b => exact ⟨fun e => absurd e (nI_m1 s (by have := h.1; omega)), fun e => by cases e⟩
/-- y (on side e of p) turns over p -/
theorem dn_single {F : Nat} {A0 : Nat → Int32} {τ τm : Tau} {e : Bool} {rp p ry y : Nat} {kp' ky : Int32} {O I t : Gt} {c : List Fr} (h : rep τ (nd2 e (rp + 2) p kp' (nd2 e ry y ky O I) t) (cpar c)) (hc : repc τ c (nI p)) (hn : apt (nd2 e (rp + 2) p kp' (nd2 e ry y ky O I) t) c) (hs : sm A0 τ τm) (hy : (ry : Int) - trk O = 1) :
    ∃ τ' τm' rp', fX7_turnAfterRemoving F τ (nI p) (nI y) (b2i e) = some τ' ∧ fX9_turnsDown F (flat τm) (nI p) (nI y) (b2i (!e)) = some (flat τm') ∧ sm A0 τ' τm' ∧ rep τ' (nd2 e (ry + 1) y ky O (nd2 e rp' p kp' I t)) (cpar c) ∧ repc τ' c (nI y) ∧ kp τ τ' ∧ ((I = .leaf ∧ t = .leaf) ∧ rp' = rp ∨ ¬ (I = .leaf ∧ t = .leaf) ∧ rp' = rp + 1) := by
  obtain ⟨g1, g2, g3⟩ := rot_ok h hc hn
  have t1 := (c_turn (F := F) h hc hn).1
  have t2 := (c_turn (F := F) (sm_rep hs h) (sm_repc hs hc) hn).2
  obtain ⟨hp60, hk, hr, hl, ho, hpp, hX, hC⟩ := rep_nd2.mp h
  obtain ⟨hy60, hky, hry, hly, hoy, hpy, hO, hI⟩ := rep_nd2.mp hX
  have hnn := apt_nd2.mp hn
  have hpn := (List.nodup_cons.mp hnn).1
  have pc : p ∉ csl c := fun e => hpn (by simp [e])
  have pX : p ∉ tsl (nd2 e ry y ky O I) := fun e => hpn (by simp [e])
  have pt : p ∉ tsl t := fun e => hpn (by simp [e])
  obtain ⟨pO, pI, py⟩ := mem_nd2 pX
  have hnn2 := List.nodup_append.mp (List.nodup_cons.mp hnn).2
  have ym : y ∈ tsl (nd2 e ry y ky O I) := tsl_nd2_mem.mpr (Or.inl rfl)
  have yt : y ∉ tsl t := fun e => hnn2.2.2 y ym y (by simp [e]) rfl
  have yc : y ∉ csl c := fun e => hnn2.2.2 y ym y (by simp [e]) rfl
  have hyy : (y :: (tsl O ++ tsl I)).Nodup := (tsl_nd2 e ry y ky O I).nodup hnn2.1
  have yO : y ∉ tsl O := fun e => (List.nodup_cons.mp hyy).1 (by simp [e])
  have yI : y ∉ tsl I := fun e => (List.nodup_cons.mp hyy).1 (by simp [e])
  have hs1 := sm_rot hs e p y I c
  have r2 : rotT τ e p y I c 2 = τ 2 := rot_row _ _ _ _ _ _ (by omega)
  have r0 : rotT τ e p y I c 0 = τ 0 := rot_row _ _ _ _ _ _ (by omega)
  have r1 : rotT τ e p y I c 1 = τ 1 := rot_row _ _ _ _ _ _ (by omega)
  have r6 : rotT τ e p y I c 6 1 = τ 6 1 := rot_61 _ _ _ _ _ _
  generalize rotT τ e p y I c = R at *
  generalize rotT τm e p y I c = Rm at *
  have hs2 := sm_cnt hs1 (show 2 < 3 by omega)
  have hs3 := sm_add hs2 y 1
  generalize hT : u2 (u2 R 8 2 (R 8 2 + 1)) 2 y (u2 R 8 2 (R 8 2 + 1) 2 y + 1) = T at hs3
  generalize hTm : u2 (cntM Rm 2) 2 y (cntM Rm 2 2 y + 1) = Tm at hs3
  have hTr : ∀ r, r ≤ 6 → r ≠ 2 → T r = R r := fun r hr h2 => by rw [← hT, u2_row _ _ h2, u2_row _ _ (by omega)]
  have hT2 : ∀ s, s ≠ y → T 2 s = τ 2 s := fun s hs' => by rw [← hT, u2_ne _ _ (Or.inr hs'), u2_row _ _ (by omega), r2]
  have hrepT : rep T (nd2 e (ry + 1) y ky O (nd2 e (rp + 2) p kp' I t)) (cpar c) := by
    have e1 : u2 R 8 2 (R 8 2 + 1) 2 y + 1 = nI (ry + 1) := by rw [u2_row _ _ (by omega), r2, hry, nI_1]
    rw [← hT, e1]
    have := rep_setR y (ry + 1) (rep_row (τ' := u2 R 8 2 (R 8 2 + 1)) g1 (fun r hr => u2_row _ _ (by omega)))
    simp only [setR_nd2, setR_no y _ yO, setR_no y _ yI, setR_no y _ yt, if_true, if_neg (Ne.symm py)] at this
    exact this
  have hrepcT : repc T c (nI y) := by
    rw [← hT]
    exact repc_u2 (repc_row g2 (fun r hr => u2_row _ _ (by omega))) yc
  -- what hangs below p now
  obtain ⟨-, -, -, -, -, -, -, hPn⟩ := rep_nd2.mp hrepT
  obtain ⟨-, -, hr3, q1, q2, -, qI, qt⟩ := rep_nd2.mp hPn
  have hleaf : (T 3 p = -1 ∧ T 4 p = -1) ↔ (I = .leaf ∧ t = .leaf) := by
    rw [← trt_m1 qI, ← trt_m1 qt, ← q1, ← q2]
    cases e
    · exact ⟨fun h => ⟨h.2, h.1⟩, fun h => ⟨h.2, h.1⟩⟩
    · exact Iff.rfl
  have fin : ∀ rp' v, T 2 p + v = nI rp' → sm A0 (u2 T 2 p (T 2 p + v)) (u2 Tm 2 p (T 2 p + v)) ∧ rep (u2 T 2 p (T 2 p + v)) (nd2 e (ry + 1) y ky O (nd2 e rp' p kp' I t)) (cpar c) ∧ repc (u2 T 2 p (T 2 p + v)) c (nI y) ∧ kp τ (u2 T 2 p (T 2 p + v)) := by
    intro rp' v hv
    refine ⟨sm_u2 hs3 (by omega) p _, ?_, repc_u2 hrepcT pc, ?_, ?_, ?_⟩
    · rw [hv]
      have := rep_setR p rp' hrepT
      simp only [setR_nd2, setR_no p _ pO, setR_no p _ pI, setR_no p _ pt, if_true, if_neg py] at this
      exact this
    · rw [u2_row _ _ (by omega), hTr 0 (by omega) (by omega), r0]
    · rw [u2_row _ _ (by omega), hTr 1 (by omega) (by omega), r1]
    · rw [u2_row _ _ (by omega), hTr 6 (by omega) (by omega), r6]
  have hcl : fX7_turnAfterRemoving F τ (nI p) (nI y) (b2i e) = (if T 3 p = -1 ∧ T 4 p = -1 then some (u2 T 2 p (T 2 p + -2)) else some (u2 T 2 p (T 2 p + -1))) := by
    unfold fX7_turnAfterRemoving
    rw [cg_child hy60, hly, Option.bind_some, cg_st hy60 hry hO, hy, Option.bind_some, if_pos (by decide), t1, Option.bind_some, cg_addRank hy60, Option.bind_some, hT, cg_leaf hp60, Option.bind_some]
    by_cases hz : T 3 p = -1 ∧ T 4 p = -1
    · rw [if_pos hz, if_pos hz, if_neg (by decide), cg_addRank hp60, Option.bind_some]
    · rw [if_neg hz, if_neg hz, if_pos rfl, cg_addRank hp60, Option.bind_some]
  have hTm2 : Tm 2 p = T 2 p := by rw [hs3.1 2 (by omega)]
  have hml : fX9_turnsDown F (flat τm) (nI p) (nI y) (b2i (!e)) = (if T 3 p = -1 ∧ T 4 p = -1 then some (flat (u2 Tm 2 p (T 2 p + -2))) else some (flat (u2 Tm 2 p (T 2 p + -1)))) := by
    have h21 : ∀ z, fX9_turnsDown_21 F (flat τm) (nI p) (nI y) z (nI y) (nI y) (b2i e) = (if T 3 p = -1 ∧ T 4 p = -1 then some (flat (u2 Tm 2 p (T 2 p + -2))) else some (flat (u2 Tm 2 p (T 2 p + -1)))) := by
      intro z
      unfold fX9_turnsDown_21
      rw [mg_child hy60, hs.1 _ (by have := cc_le e; omega), hly, Option.bind_some, mg_st hy60 (by rw [hs.1 2 (by omega)]; exact hry) (sm_rep hs hO), hy, Option.bind_some, if_pos (by decide), t2, Option.bind_some, mg_ranks hy60, Option.bind_some, hTm, mg_ranks hp60, Option.bind_some, mg_leaf hp60, Option.bind_some]
      have e3 : u2 Tm 2 p (Tm 2 p + -1) 3 p = T 3 p := by rw [u2_row _ _ (by omega), hs3.1 3 (by omega)]
      have e4 : u2 Tm 2 p (Tm 2 p + -1) 4 p = T 4 p := by rw [u2_row _ _ (by omega), hs3.1 4 (by omega)]
      rw [e3, e4]
      by_cases hz : T 3 p = -1 ∧ T 4 p = -1
      · rw [if_pos hz, if_pos hz, if_neg (by decide), mg_ranks hp60, Option.bind_some, u2_u2, u2_at, hTm2, Int32.add_assoc]
        have : (-1 : Int32) + -1 = -2 := by decide
        rw [this]
      · rw [if_neg hz, if_neg hz, if_pos rfl, hTm2]
    unfold fX9_turnsDown
    rw [mg_child hy60, Option.bind_some]
    cases e
    · rw [if_neg (show ¬ b2i (!false) = 0 by decide)]; exact h21 _
    · rw [if_pos (show b2i (!true) = 0 from rfl)]; exact h21 _
  have hT2p : T 2 p = nI (rp + 2) := by rw [hT2 p (Ne.symm py), hr]
  by_cases hz : I = .leaf ∧ t = .leaf
  · obtain ⟨f1, f2, f3, f4⟩ := fin rp (-2) (by rw [hT2p, nI_less2])
    refine ⟨_, _, rp, hcl.trans (if_pos (hleaf.mpr hz)), hml.trans (if_pos (hleaf.mpr hz)), f1, f2, f3, f4, Or.inl ⟨hz, rfl⟩⟩
  · obtain ⟨f1, f2, f3, f4⟩ := fin (rp + 1) (-1) (by rw [hT2p]; exact nI_less (rp + 1))
    refine ⟨_, _, rp + 1, hcl.trans (if_neg (fun w => hz (hleaf.mp w))), hml.trans (if_neg (fun w => hz (hleaf.mp w))), f1, f2, f3, f4, Or.inr ⟨hz, rfl⟩⟩
/-- the inner one of y turns over y, then over p -/
theorem dn_double {F : Nat} {A0 : Nat → Int32} {τ τm : Tau} {e : Bool} {rp p ry y rv v : Nat} {kp' ky kv : Int32} {O V1 V2 t : Gt} {c : List Fr} (h : rep τ (nd2 e (rp + 2) p kp' (nd2 e (ry + 1) y ky O (nd2 e rv v kv V1 V2)) t) (cpar c)) (hc : repc τ c (nI p)) (hn : apt (nd2 e (rp + 2) p kp' (nd2 e (ry + 1) y ky O (nd2 e rv v kv V1 V2)) t) c) (hs : sm A0 τ τm) (hy : ((ry + 1 : Nat) : Int) - trk O = 2) :
    ∃ τ' τm', fX7_turnAfterRemoving F τ (nI p) (nI y) (b2i e) = some τ' ∧ fX9_turnsDown F (flat τm) (nI p) (nI y) (b2i (!e)) = some (flat τm') ∧ sm A0 τ' τm' ∧ rep τ' (nd2 e (rv + 2) v kv (nd2 e ry y ky O V1) (nd2 e rp p kp' V2 t)) (cpar c) ∧ repc τ' c (nI v) ∧ kp τ τ' := by
  obtain ⟨τ1, τ2, m1, m2, a1, a2, b1, b2, hs2, g1, g2, g3, k0, k1, k2, k6⟩ := dbl_ok (F := F) h hc hn hs
  obtain ⟨hp60, hk, hr, hl, ho, hpp, hX, hC⟩ := rep_nd2.mp h
  obtain ⟨hy60, hky, hry, hly, hoy, hpy, hO, hV⟩ := rep_nd2.mp hX
  obtain ⟨hv60, hkv, hrv, hlv, hov, hpv, hV1, hV2⟩ := rep_nd2.mp hV
  rw [trt_nd2] at hoy
  have g3' := apt_nd2.mp g3
  have hvn := (List.nodup_cons.mp g3').1
  have hn1 := List.nodup_append.mp (List.nodup_cons.mp g3').2
  have vY : v ∉ tsl (nd2 e (ry + 1) y ky O V1) := fun e => hvn (by simp [e])
  have vP : v ∉ tsl (nd2 e (rp + 2) p kp' V2 t) := fun e => hvn (by simp [e])
  have vc : v ∉ csl c := fun e => hvn (by simp [e])
  have ym : y ∈ tsl (nd2 e (ry + 1) y ky O V1) := tsl_nd2_mem.mpr (Or.inl rfl)
  have pm : p ∈ tsl (nd2 e (rp + 2) p kp' V2 t) := tsl_nd2_mem.mpr (Or.inl rfl)
  have yP : y ∉ tsl (nd2 e (rp + 2) p kp' V2 t) := fun e => hn1.2.2 y ym y (by simp [e]) rfl
  have yc : y ∉ csl c := fun e => hn1.2.2 y ym y (by simp [e]) rfl
  have hn2 := List.nodup_append.mp hn1.2.1
  have pc : p ∉ csl c := fun e => hn2.2.2 p pm p e rfl
  have pY : p ∉ tsl (nd2 e (ry + 1) y ky O V1) := fun e => hn1.2.2 p e p (by simp [pm]) rfl
  obtain ⟨y1, y2, y3⟩ := mem_nd2 vY
  obtain ⟨y4, y5, y6⟩ := mem_nd2 vP
  obtain ⟨x1, x2, x3⟩ := mem_nd2 yP
  obtain ⟨p1, p2, p3⟩ := mem_nd2 pY
  have hnx : (y :: (tsl O ++ tsl V1)).Nodup := (tsl_nd2 e (ry + 1) y ky O V1).nodup hn1.1
  have hnp : (p :: (tsl V2 ++ tsl t)).Nodup := (tsl_nd2 e (rp + 2) p kp' V2 t).nodup hn2.1
  have yO : y ∉ tsl O := fun e => (List.nodup_cons.mp hnx).1 (by simp [e])
  have yV1 : y ∉ tsl V1 := fun e => (List.nodup_cons.mp hnx).1 (by simp [e])
  have pV2 : p ∉ tsl V2 := fun e => (List.nodup_cons.mp hnp).1 (by simp [e])
  have pt : p ∉ tsl t := fun e => (List.nodup_cons.mp hnp).1 (by simp [e])
  generalize hT : u2 τ2 8 2 (τ2 8 2 + 2) = T at hs2
  have hTr : ∀ r, r ≤ 6 → T r = τ2 r := fun r hr => by rw [← hT, u2_row _ _ (by omega)]
  have e2v : T 2 v = nI rv := by rw [hTr 2 (by omega), k2]; exact hrv
  have hs3 := sm_add hs2 v 2
  have hs4 := sm_add hs3 y (-1)
  have hs5 := sm_add hs4 p (-2)
  have e3 : T 2 v + 2 = nI (rv + 2) := by rw [e2v]; exact nI_add rv 2
  have e4 : u2 T 2 v (T 2 v + 2) 2 y + -1 = nI ry := by
    rw [u2_ne _ _ (Or.inr y3), hTr 2 (by omega), k2, hry, nI_less]
  have e5 : u2 (u2 T 2 v (T 2 v + 2)) 2 y (u2 T 2 v (T 2 v + 2) 2 y + -1) 2 p + -2 = nI rp := by
    rw [u2_ne _ _ (Or.inr x3), u2_ne _ _ (Or.inr y6), hTr 2 (by omega), k2, hr, nI_less2]
  refine ⟨_, _, ?_, ?_, hs5, ?_, ?_, ?_⟩
  · have h91 : fX7_turnAfterRemoving_91 F τ (nI p) (nI y) (nI y) (b2i (!e)) = some (u2 (u2 (u2 T 2 v (T 2 v + 2)) 2 y (u2 T 2 v (T 2 v + 2) 2 y + -1)) 2 p (u2 (u2 T 2 v (T 2 v + 2)) 2 y (u2 T 2 v (T 2 v + 2) 2 y + -1) 2 p + -2)) := by
      unfold fX7_turnAfterRemoving_91
      rw [cg_child hy60, hoy, Option.bind_some, a1, Option.bind_some, a2, Option.bind_some, hT, cg_addRank hv60, Option.bind_some, cg_addRank hy60, Option.bind_some, cg_addRank hp60, Option.bind_some]
    unfold fX7_turnAfterRemoving
    rw [cg_child hy60, hly, Option.bind_some, cg_st hy60 hry hO, hy, Option.bind_some, if_neg (by decide)]
    cases e
    · rw [if_pos (show b2i false = 0 from rfl)]; exact h91
    · rw [if_neg (show ¬ b2i true = 0 by decide)]; exact h91
  · have h21 : fX9_turnsDown_21 F (flat τm) (nI p) (nI y) (nI v) (nI y) (nI y) (b2i e) = some (flat (u2 (u2 (u2 m2 2 v (m2 2 v + 2)) 2 y (u2 m2 2 v (m2 2 v + 2) 2 y + -1)) 2 p (u2 (u2 m2 2 v (m2 2 v + 2)) 2 y (u2 m2 2 v (m2 2 v + 2) 2 y + -1) 2 p + -2))) := by
      unfold fX9_turnsDown_21
      rw [mg_child hy60, hs.1 _ (by have := cc_le e; omega), hly, Option.bind_some, mg_st hy60 (by rw [hs.1 2 (by omega)]; exact hry) (sm_rep hs hO), hy, Option.bind_some, if_neg (by decide), b1, Option.bind_some, b2, Option.bind_some, mg_ranks hv60, Option.bind_some, mg_ranks hy60, Option.bind_some, mg_ranks hp60, Option.bind_some]
    unfold fX9_turnsDown
    rw [mg_child hy60, hs.1 _ (by have := cc_le (!e); omega), hoy, Option.bind_some]
    cases e
    · rw [if_neg (show ¬ b2i (!false) = 0 by decide)]; exact h21
    · rw [if_pos (show b2i (!true) = 0 from rfl)]; exact h21
  · rw [e5, e4, e3]
    have r1 := rep_setR p rp (rep_setR y ry (rep_setR v (rv + 2) (rep_row (τ' := T) g1 (fun r hr => hTr r (by omega)))))
    simp only [setR_nd2, setR_no v _ y1, setR_no v _ y2, setR_no v _ y4, setR_no v _ y5, setR_no y _ yO, setR_no y _ yV1, setR_no y _ x1, setR_no y _ x2, setR_no p _ p1, setR_no p _ p2, setR_no p _ pV2, setR_no p _ pt, if_true, if_false, y3, Ne.symm y3, y6, Ne.symm y6, x3, Ne.symm x3] at r1
    exact r1
  · exact repc_u2 (repc_u2 (repc_u2 (repc_row g2 (fun r hr => hTr r hr)) vc) yc) pc
  · refine ⟨?_, ?_, ?_⟩
    · rw [u2_row _ _ (by omega), u2_row _ _ (by omega), u2_row _ _ (by omega), hTr 0 (by omega), k0]
    · rw [u2_row _ _ (by omega), u2_row _ _ (by omega), u2_row _ _ (by omega), hTr 1 (by omega), k1]
    · rw [u2_row _ _ (by omega), u2_row _ _ (by omega), u2_row _ _ (by omega), hTr 6 (by omega), k6]
theorem c_long {F : Nat} {τ : Tau} {e : Bool} {ry y : Nat} {ky : Int32} {O I : Gt} {p : Int32} (h : rep τ (nd2 e ry y ky O I) p) (s1 : stp ry (trk O)) (s2 : stp ry (trk I)) : fX7_hasOnlyLongSteps F τ (nI y) = some (if (ry : Int) - trk O = 2 ∧ (ry : Int) - trk I = 2 then 1 else 0) := by
  obtain ⟨hy60, hky, hry, hly, hoy, hpy, hO, hI⟩ := rep_nd2.mp h
  unfold fX7_hasOnlyLongSteps
  cases e
  · have h3 : τ 3 y = trt I := hoy
    have h4 : τ 4 y = trt O := hly
    rw [cg_left hy60, h3, Option.bind_some, cg_st hy60 hry hI, Option.bind_some, cg_right hy60, h4]
    rcases s1 with s1 | s1 <;> rcases s2 with s2 | s2 <;> rw [s2]
    · rw [if_neg (by decide), if_neg (by omega)]
    · rw [if_pos (by decide), Option.bind_some, cg_st hy60 hry hO, s1, Option.bind_some, if_neg (by decide), if_neg (by omega)]
    · rw [if_neg (by decide), if_neg (by omega)]
    · rw [if_pos (by decide), Option.bind_some, cg_st hy60 hry hO, s1, Option.bind_some, if_pos (by decide), if_pos (by omega)]
  · have h3 : τ 3 y = trt O := hly
    have h4 : τ 4 y = trt I := hoy
    rw [cg_left hy60, h3, Option.bind_some, cg_st hy60 hry hO, Option.bind_some, cg_right hy60, h4]
    rcases s1 with s1 | s1 <;> rcases s2 with s2 | s2 <;> rw [s1]
    · rw [if_neg (by decide), if_neg (by omega)]
    · rw [if_neg (by decide), if_neg (by omega)]
    · rw [if_pos (by decide), Option.bind_some, cg_st hy60 hry hI, s2, Option.bind_some, if_neg (by decide), if_neg (by omega)]
    · rw [if_pos (by decide), Option.bind_some, cg_st hy60 hry hI, s2, Option.bind_some, if_pos (by decide), if_pos (by omega)]
theorem m_long {F : Nat} {τ : Tau} {e : Bool} {ry y rp p : Nat} {ky : Int32} {O I : Gt} {z : Int32} {k : (Nat → Int32) → Int32 → Int32 → Option (Nat → Int32)} {x4 : Int32} (h : rep τ (nd2 e ry y ky O I) z) (hp60 : p < 60) (hrp : τ 2 p = nI rp) (hcp : τ (cc e) p = nI y) (s1 : stp ry (trk O)) (s2 : stp ry (trk I)) (h1 : (rp : Int) - ry = 1) :
    fX9_falls_38 F k (flat τ) (nI p) x4 (nI p) (b2i e) = (if (ry : Int) - trk O = 2 ∧ (ry : Int) - trk I = 2 then fX9_falls_93 F k (flat τ) (nI p) x4 (nI y) 1 else fX9_falls_92 F k (flat τ) (nI p) x4 (nI y)) := by
  obtain ⟨hy60, hky, hry, hly, hoy, hpy, hO, hI⟩ := rep_nd2.mp h
  have hst := mg_st (F := F) hp60 hrp h
  rw [trt_nd2, trk_nd2, h1] at hst
  unfold fX9_falls_38
  rw [mg_child hp60, hcp, Option.bind_some, hst, Option.bind_some, if_pos (by decide)]
  cases e
  · have h3 : τ 3 y = trt I := hoy
    have h4 : τ 4 y = trt O := hly
    rw [mg_left hy60, h3, Option.bind_some, mg_st hy60 hry hI, Option.bind_some, mg_right hy60, h4]
    rcases s1 with s1 | s1 <;> rcases s2 with s2 | s2 <;> rw [s2]
    · rw [if_neg (by decide), if_neg (by omega)]
    · rw [if_pos (by decide), Option.bind_some, mg_st hy60 hry hO, s1, Option.bind_some, if_neg (by decide), if_neg (by omega)]
    · rw [if_neg (by decide), if_neg (by omega)]
    · rw [if_pos (by decide), Option.bind_some, mg_st hy60 hry hO, s1, Option.bind_some, if_pos (by decide), if_pos (by omega)]
  · have h3 : τ 3 y = trt O := hly
    have h4 : τ 4 y = trt I := hoy
    rw [mg_left hy60, h3, Option.bind_some, mg_st hy60 hry hO, Option.bind_some, mg_right hy60, h4]
    rcases s1 with s1 | s1 <;> rcases s2 with s2 | s2 <;> rw [s1]
    · rw [if_neg (by decide), if_neg (by omega)]
    · rw [if_neg (by decide), if_neg (by omega)]
    · rw [if_pos (by decide), Option.bind_some, mg_st hy60 hry hI, s2, Option.bind_some, if_neg (by decide), if_neg (by omega)]
    · rw [if_pos (by decide), Option.bind_some, mg_st hy60 hry hI, s2, Option.bind_some, if_pos (by decide), if_pos (by omega)]
