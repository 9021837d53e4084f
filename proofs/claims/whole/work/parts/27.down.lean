/-! ===== the way up after a key has gone, both sides in step ===== -/
theorem left_is2 {τ : Tau} {d : Bool} {p : Nat} {t o : Gt} {q1 q2 : Int32} (h1 : τ (cc d) p = trt t) (h2 : τ (cc (!d)) p = trt o) (rt : rep τ t q1) (ro : rep τ o q2) (hd : ∀ s ∈ tsl t, s ∉ tsl o) (hl : t = .leaf → o ≠ .leaf) : (τ 3 p = trt t) ↔ d = true := by
  cases d
  · have h3 : τ 3 p = trt o := h2
    rw [h3]
    refine ⟨fun e => ?_, fun e => by cases e⟩
    rcases gt_cases t with h | ⟨r, s, k, a, b, rfl⟩
    · have := hl h
      subst h
      exact absurd ((trt_m1 ro).mp e) this
    · have hm : s ∈ tsl (nd r s k a b) := by simp [tsl]
      exact absurd (trt_mem (t := o) (s := s) e (rep_lt rt s hm) (rep_lt ro)) (hd s hm)
  · exact ⟨fun _ => rfl, fun _ => h1⟩
theorem mg_counts1 {F : Nat} {τ : Tau} : fX9_counts F (flat τ) (1 : Int32) = some (flat (cntM τ 1)) := mg_counts (j := 1) (by omega)
theorem falls_stop (F m : Nat) (now : Nat → Int32) (x : Int32) : fX9_falls_5 F (m + 1) now (-1) x = some now := by
  rw [fX9_falls_5, if_pos rfl]
theorem falls_147 {F : Nat} {τ : Tau} {p : Nat} {c : List Fr} {k : (Nat → Int32) → Int32 → Int32 → Option (Nat → Int32)} (hp : p < 60) (hc : repc τ c (nI p)) (hn : p ∉ csl c) : fX9_falls_147 F k (flat τ) (nI p) (cpar c) = k (flat τ) (cpar c) (b2i (cdir c)) := by
  unfold fX9_falls_147
  cases c with
  | nil => rfl
  | cons f c =>
    obtain ⟨d, r, g, kk, o⟩ := f
    obtain ⟨e1, e2, e3, e4, e5, e6, e7, e8⟩ := hc
    have hgd : (τ 3 g = nI p) ↔ d = true := left_is (x := 0) e4 e5 hp (rep_lt e7) (fun e => hn (by simp [csl, e]))
    show (if nI g = -1 then _ else _) = _
    rw [if_neg (nI_m1 g (by omega)), show cpar ((d, r, g, kk, o) :: c) = nI g from rfl, mg_isLeft e1, dec_b hgd, Option.bind_some]
    cases d
    · rw [if_pos (show b2i false = 0 from rfl)]; rfl
    · rw [if_neg (show ¬ b2i true = 0 by decide)]; rfl
theorem fall {F : Nat} {A0 : Nat → Int32} : ∀ (c : List Fr) (t : Gt) (τ τm : Tau) (q : Int) (i n m : Nat), rep τ t (cpar c) → repc τ c (trt t) → apt t c → sm A0 τ τm → wv t → wc c q → trk t = q - 1 → (∀ f c', c = f :: c' → t = .leaf → f.2.2.2.2 ≠ .leaf) → i + c.length < 60 → c.length < n → c.length + 1 < m →
    ∃ τ' τm' t', fX7_mendGap_8 F n τ (trt t) (cpar c) (nI i) = some τ' ∧ fX9_falls_5 F m (flat τm) (cpar c) (b2i (cdir c)) = some (flat τm') ∧ sm A0 τ' τm' ∧ rep τ' t' (-1) ∧ τ' 6 0 = trt t' ∧ wv t' ∧ (tsl t').Perm (tsl t ++ csl c) ∧ tks t' = tks (plug c t) ∧ kp τ τ'
  | [], t, τ, τm, q, i, n, m, hr, hc, hn, hs, hw, hwc, hq, hlf, hi, hn1, hm => by
    obtain ⟨n, rfl⟩ : ∃ k, n = k + 1 := ⟨n - 1, by simp at hn1; omega⟩
    obtain ⟨m, rfl⟩ : ∃ k, m = k + 1 := ⟨m - 1, by simp at hm; omega⟩
    refine ⟨τ, τm, t, ?_, ?_, hs, hr, hc, hw, ?_, rfl, kp_rfl τ⟩
    · rw [fX7_mendGap_8, if_neg (n60le (by simp at hi; omega)), if_pos (show cpar [] = -1 from rfl)]
    · exact falls_stop _ _ _ _
    · rw [csl, List.append_nil]
  | (d, r, p, k, o) :: c, t, τ, τm, q, i, n, m, hr, hc, hn, hs, hw, hwc, hq, hlf, hi, hn1, hm => by
    obtain ⟨n, rfl⟩ : ∃ k, n = k + 1 := ⟨n - 1, by simp at hn1; omega⟩
    obtain ⟨m, rfl⟩ : ∃ k, m = k + 2 := ⟨m - 2, by simp at hm; omega⟩
    simp only [List.length_cons] at hi hn1 hm
    obtain ⟨hp60, hk, hrk, hhl, ho, hpp, hro, hcc⟩ := id hc
    obtain ⟨w1, w2, w3, w4, w5⟩ := id hwc
    have hlf' : t = .leaf → o ≠ .leaf := hlf _ _ rfl
    have hpn := apt_up.mp hn
    have hnn := apt_nd2.mp hpn
    have hnd := List.nodup_append.mp (List.nodup_cons.mp hnn).2
    have hp0 := (List.nodup_cons.mp hnn).1
    have pt : p ∉ tsl t := fun e => hp0 (by simp [e])
    have po : p ∉ tsl o := fun e => hp0 (by simp [e])
    have pcc : p ∉ csl c := fun e => hp0 (by simp [e])
    have dl : (τ 3 p = trt t) ↔ d = true := left_is2 hhl ho hr hro (fun s hs e => hnd.2.2 s hs s (by simp [e]) rfl) hlf'
    have hst : fX4_step F τ (nI p) (trt t) = some (oI (r - trk t)) := cg_st hp60 hrk hr
    have hrkm : τm 2 p = nI r := by rw [hs.1 2 (by omega)]; exact hrk
    have hstm : fX9_step F (flat τm) (nI p) (trt t) = some (oI (r - trk t)) := mg_st hp60 hrkm (sm_rep hs hr)
    have hchm : fX9_child F (flat τm) (nI p) (b2i d) = some (trt t) := by rw [mg_child hp60, hs.1 _ (by have := cc_le d; omega), hhl]
    have hP : rep τ (nd2 d r p k t o) (cpar c) := rep_nd2.mpr ⟨hp60, hk, hrk, hhl, ho, hpp, hr, hro⟩
    have hpermP : (tsl (nd2 d r p k t o) ++ csl c).Perm (tsl t ++ csl ((d, r, p, k, o) :: c)) := by
      refine ((tsl_nd2 d r p k t o).append_right _).trans ?_
      show (p :: (tsl t ++ tsl o) ++ csl c).Perm (tsl t ++ p :: (tsl o ++ csl c))
      simp only [List.cons_append, List.append_assoc]
      exact List.perm_middle.symm
    by_cases h2 : (r : Int) - trk t = 2
    · -- all is right
      have hpl := (rep_plug ((d, r, p, k, o) :: c) t).mpr ⟨hr, hc⟩
      refine ⟨τ, τm, plug ((d, r, p, k, o) :: c) t, ?_, ?_, hs, hpl.1, hpl.2, ?_, tsl_plug _ _, rfl, kp_rfl τ⟩
      · show fX7_mendGap_8 F (n + 1) τ (trt t) (nI p) (nI i) = _
        rw [fX7_mendGap_8, if_neg (n60le (by omega)), if_neg (nI_m1 p (by omega)), hst, h2, Option.bind_some, if_neg (by decide)]
      · show fX9_falls_5 F (m + 2) (flat τm) (nI p) (b2i d) = _
        rw [fX9_falls_5, if_neg (nI_m1 p (by omega)), hchm, Option.bind_some, hstm, h2, Option.bind_some, if_neg (by decide)]
      · rw [wv_plug]
        exact ⟨⟨Or.inr h2, w2, fun e1 e2 => absurd e2 (hlf' (trk_leaf e1)), w4, w5⟩, hw⟩
    · have h3 : (r : Int) - trk t = 3 := by rcases w1 with w | w <;> omega
      have htg := trk_ge t
      obtain ⟨r', rfl⟩ : ∃ k, r = k + 2 := ⟨r - 2, by omega⟩
      have hog : 0 ≤ trk o := by rcases w2 with w | w <;> omega
      rcases gt_cases2 (!d) o with h | ⟨ry, y, ky, O, I, rfl⟩
      · subst h; simp [trk] at hog
      rw [trk_nd2] at w2
      obtain ⟨hy60, hky, hry, hly, hoy, hpy, hO, hI⟩ := rep_nd2.mp hro
      obtain ⟨v1, v2, v3, v4, v5⟩ := wv_nd2.mp w4
      rw [trt_nd2] at ho
      obtain ⟨pO, pI, pyn⟩ := mem_nd2 po
      have ym : y ∈ tsl (nd2 (!d) ry y ky O I) := tsl_nd2_mem.mpr (Or.inl rfl)
      have yt : y ∉ tsl t := fun e => hnd.2.2 y e y (by simp [ym]) rfl
      have hn3 := List.nodup_append.mp hnd.2.1
      have yc : y ∉ csl c := fun e => hn3.2.2 y ym y e rfl
      have hyy : (y :: (tsl O ++ tsl I)).Nodup := (tsl_nd2 (!d) ry y ky O I).nodup hn3.1
      have yO : y ∉ tsl O := fun e => (List.nodup_cons.mp hyy).1 (by simp [e])
      have yI : y ∉ tsl I := fun e => (List.nodup_cons.mp hyy).1 (by simp [e])
      have hC8 : fX7_mendGap_8 F (n + 1) τ (trt t) (nI p) (nI i) = fX7_mendGap_71 F (fun τ x3 x4 x5 => fX7_mendGap_8 F n τ x3 x4 x5) τ (nI p) (nI i) (b2i d) (nI p) (b2i (!d)) := by
        rw [fX7_mendGap_8, if_neg (n60le (by omega)), if_neg (nI_m1 p (by omega)), hst, h3, Option.bind_some, if_pos (by decide), cg_left hp60, Option.bind_some]
        cases d
        · rw [if_neg (fun e => by cases dl.mp e)]
          unfold fX7_mendGap_53
          rw [if_pos rfl]; rfl
        · rw [if_pos (dl.mpr rfl)]
          unfold fX7_mendGap_53
          rw [if_neg (by decide)]; rfl
      have hM5 : fX9_falls_5 F (m + 2) (flat τm) (nI p) (b2i d) = fX9_falls_38 F (fun now x3 x4 => fX9_falls_5 F (m + 1) now x3 x4) (flat τm) (nI p) (b2i d) (nI p) (b2i (!d)) := by
        rw [fX9_falls_5, if_neg (nI_m1 p (by omega)), hchm, Option.bind_some, hstm, h3, Option.bind_some, if_pos (by decide)]
        cases d
        · rw [if_pos (show b2i false = 0 from rfl)]; rfl
        · rw [if_neg (show ¬ b2i true = 0 by decide)]; rfl
      have hsto : fX4_step F τ (nI p) (nI y) = some (oI ((r' + 2 : Nat) - (ry : Int))) := by
        have := cg_st (F := F) hp60 hrk hro
        rw [trt_nd2, trk_nd2] at this
        exact this
      have hstom : fX9_step F (flat τm) (nI p) (nI y) = some (oI ((r' + 2 : Nat) - (ry : Int))) := by
        have := mg_st (F := F) hp60 hrkm (sm_rep hs hro)
        rw [trt_nd2, trk_nd2] at this
        exact this
      have hcom : τm (cc (!d)) p = nI y := by rw [hs.1 _ (by have := cc_le (!d); omega)]; exact ho
      have h5m : τm 5 p = cpar c := by rw [hs.1 5 (by omega)]; exact hpp
      -- going on above p, which is one lower
      have goon : ∀ (T Tm : Tau) (o' : Gt), sm A0 T Tm → rep T (nd2 d (r' + 1) p k t o') (cpar c) → repc T c (nI p) → (tsl o').Perm (tsl (nd2 (!d) ry y ky O I)) → tks o' = tks (nd2 (!d) ry y ky O I) → wv o' → stp (r' + 1 : Nat) (trk o') → o' ≠ .leaf → kp τ T →
          ∃ τ' τm' t', fX7_mendGap_8 F n T (nI p) (cpar c) (nI (i + 1)) = some τ' ∧ fX9_falls_5 F (m + 1) (flat Tm) (cpar c) (b2i (cdir c)) = some (flat τm') ∧ sm A0 τ' τm' ∧ rep τ' t' (-1) ∧ τ' 6 0 = trt t' ∧ wv t' ∧ (tsl t').Perm (tsl t ++ csl ((d, r' + 2, p, k, nd2 (!d) ry y ky O I) :: c)) ∧ tks t' = tks (plug ((d, r' + 2, p, k, nd2 (!d) ry y ky O I) :: c) t) ∧ kp τ τ' := by
        intro T Tm o' s1 s2 s3 s4 s5 s6 s7 s8 s9
        have hperm : (tsl (nd2 d (r' + 1) p k t o')).Perm (tsl (nd2 d (r' + 2) p k t (nd2 (!d) ry y ky O I))) := by
          refine (tsl_nd2 _ _ _ _ _ _).trans (List.Perm.trans ?_ (tsl_nd2 _ _ _ _ _ _).symm)
          exact List.Perm.cons _ (s4.append_left _)
        obtain ⟨τ', τm', t', a1, a2, a3, a4, a5, a6, a7, a8, a9⟩ := fall c (nd2 d (r' + 1) p k t o') T Tm (r' + 2 : Nat) (i + 1) n (m + 1) s2 (by rw [trt_nd2]; exact s3) (apt_perm hpn hperm.symm) s1
          (wv_nd2.mpr ⟨Or.inr (by omega), s7, fun _ e => absurd e s8, hw, s6⟩) w5 (by rw [trk_nd2]; omega) (fun f c' _ e => absurd e (nd2_ne _ _ _ _ _ _)) (by omega) (by omega) (by omega)
        rw [trt_nd2] at a1
        refine ⟨τ', τm', t', a1, a2, a3, a4, a5, a6, a7.trans ((hperm.append_right _).trans hpermP), ?_, kp_tr s9 a9⟩
        rw [a8]
        show tks (plug c (nd2 d (r' + 1) p k t o')) = tks (plug c (nd2 d (r' + 2) p k t (nd2 (!d) ry y ky O I)))
        refine tks_plug_congr ?_
        cases d <;> (simp only [nd2, tks] at s5 ⊢; simp [tks, s5])
      rcases w2 with w2 | w2
      · -- the sibling is one below
        by_cases hb : (ry : Int) - trk O = 2 ∧ (ry : Int) - trk I = 2
        · -- both demoted
          obtain ⟨ry', rfl⟩ : ∃ k, ry = k + 1 := ⟨ry - 1, by omega⟩
          -- in the model's order: p, then y
          have hs1 := sm_cnt (sm_add hs p (-1)) (show 1 < 3 by omega)
          have hs2 := sm_cnt (sm_add hs1 y (-1)) (show 1 < 3 by omega)
          have eq : ∀ (a b : Int32), u2 (u2 (u2 (u2 τ 2 p a) 8 1 (τ 8 1 + 1)) 2 y b) 8 1 (τ 8 1 + 1 + 1) = u2 (u2 (u2 (u2 τ 2 y b) 8 1 (τ 8 1 + 1)) 2 p a) 8 1 (τ 8 1 + 1 + 1) := by
            intro a b
            funext cc' kk'
            simp only [u2_app]
            by_cases e1 : cc' = 8 ∧ kk' = 1
            · simp [e1]
            · by_cases e2 : cc' = 2 ∧ kk' = p
              · have : p ≠ y := Ne.symm pyn
                simp [e2, this]
              · simp [e1, e2]
          have e1 : u2 τ 2 p (τ 2 p + -1) 8 1 = τ 8 1 := by rw [u2_row _ _ (by omega)]
          have e2 : u2 (u2 τ 2 p (τ 2 p + -1)) 8 1 (τ 8 1 + 1) 2 y = τ 2 y := by rw [u2_row _ _ (by omega), u2_ne _ _ (Or.inr pyn)]
          have e3 : ∀ a b, u2 (u2 (u2 τ 2 p a) 8 1 (τ 8 1 + 1)) 2 y b 8 1 = τ 8 1 + 1 := fun a b => by rw [u2_row _ _ (by omega), u2_at]
          rw [e1, e2, e3, eq] at hs2
          have f1 : u2 τ 2 y (τ 2 y + -1) 8 1 = τ 8 1 := by rw [u2_row _ _ (by omega)]
          have f2 : u2 (u2 τ 2 y (τ 2 y + -1)) 8 1 (τ 8 1 + 1) 2 p = τ 2 p := by rw [u2_row _ _ (by omega), u2_ne _ _ (Or.inr (Ne.symm pyn))]
          have f3 : ∀ a b, u2 (u2 (u2 τ 2 y a) 8 1 (τ 8 1 + 1)) 2 p b 8 1 = τ 8 1 + 1 := fun a b => by rw [u2_row _ _ (by omega), u2_at]
          generalize hT : u2 (u2 (u2 (u2 τ 2 y (τ 2 y + -1)) 8 1 (τ 8 1 + 1)) 2 p (τ 2 p + -1)) 8 1 (τ 8 1 + 1 + 1) = T at hs2
          have hrT : rep T (nd2 d (r' + 1) p k t (nd2 (!d) ry' y ky O I)) (cpar c) := by
            rw [← hT, show τ 2 y + -1 = nI ry' by rw [hry, nI_less], show τ 2 p + -1 = nI (r' + 1) by rw [hrk]; exact nI_less (r' + 1)]
            have q1 := rep_row (τ' := u2 (u2 τ 2 y (nI ry')) 8 1 (τ 8 1 + 1)) (rep_setR y ry' hP) (fun r hr => u2_row _ _ (by omega))
            have q2 := rep_row (τ' := u2 (u2 (u2 (u2 τ 2 y (nI ry')) 8 1 (τ 8 1 + 1)) 2 p (nI (r' + 1))) 8 1 (τ 8 1 + 1 + 1)) (rep_setR p (r' + 1) q1) (fun r hr => u2_row _ _ (by omega))
            simp only [setR_nd2, setR_no y _ yt, setR_no y _ yO, setR_no y _ yI, setR_no p _ pt, setR_no p _ pO, setR_no p _ pI, if_true, if_neg pyn, if_neg (Ne.symm pyn)] at q2
            exact q2
          have hcT : repc T c (nI p) := by
            rw [← hT]
            exact repc_row (repc_u2 (repc_row (repc_u2 hcc yc) (fun r hr => u2_row _ _ (by omega))) pcc) (fun r hr => u2_row _ _ (by omega))
          have hT5 : T 5 p = cpar c := (rep_nd2.mp hrT).2.2.2.2.2.1
          obtain ⟨τ', τm', t', a1, a2, a3⟩ := goon T _ (nd2 (!d) ry' y ky O I) hs2 hrT hcT ((tsl_nd2 _ _ _ _ _ _).trans (tsl_nd2 _ _ _ _ _ _).symm) (tks_nd2_r _ _ _ _ _ _ _)
            (wv_nd2.mpr ⟨Or.inl (by omega), Or.inl (by omega), fun e1 e2 => by have := v3 e1 e2; omega, v4, v5⟩) (Or.inl (by rw [trk_nd2]; omega)) (nd2_ne _ _ _ _ _ _)
            (by rw [← hT]; exact ⟨by simp only [u2_row _ _ (show (0 : Nat) ≠ 8 by omega), u2_row _ _ (show (0 : Nat) ≠ 2 by omega)], by simp only [u2_row _ _ (show (1 : Nat) ≠ 8 by omega), u2_row _ _ (show (1 : Nat) ≠ 2 by omega)], by simp only [u2_row _ _ (show (6 : Nat) ≠ 8 by omega), u2_row _ _ (show (6 : Nat) ≠ 2 by omega)]⟩)
          refine ⟨τ', τm', t', ?_, ?_, a3⟩
          · show fX7_mendGap_8 F (n + 1) τ (trt t) (nI p) (nI i) = _
            rw [hC8]
            unfold fX7_mendGap_71
            rw [cg_child hp60, ho, Option.bind_some, hsto, w2, Option.bind_some, if_neg (by decide), c_long hro v1 v2, Option.bind_some, if_pos hb, if_neg (by decide)]
            unfold fX7_demote
            rw [cg_addRank hy60, Option.bind_some, Option.bind_some, f1]
            unfold fX7_mendGap_125 fX7_demote
            rw [cg_addRank hp60, Option.bind_some, Option.bind_some, f2, f3, hT, cg_parent hp60, hT5, Option.bind_some, nI_1]
            exact a1
          · show fX9_falls_5 F (m + 2) (flat τm) (nI p) (b2i d) = _
            rw [hM5, m_long (sm_rep hs hro) hp60 hrkm hcom v1 v2 w2, if_pos hb]
            unfold fX9_falls_93
            rw [mg_parent hp60, h5m, Option.bind_some, hstom, w2, Option.bind_some, if_neg (by decide), if_neg (by decide)]
            unfold fX9_falls_119
            rw [mg_ranks hp60, Option.bind_some, mg_counts1, Option.bind_some, if_neg (by decide), mg_ranks hy60, Option.bind_some, mg_counts1, Option.bind_some, falls_147 hp60 (sm_repc hs2 hcT) pcc]
            exact a2
        · -- turned
          have hdP : nd2 d (r' + 2) p k t (nd2 (!d) ry y ky O I) = nd2 (!d) (r' + 2) p k (nd2 (!d) ry y ky O I) t := (nd2_not d _ _ _ _ _).symm
          have hP2 : rep τ (nd2 (!d) (r' + 2) p k (nd2 (!d) ry y ky O I) t) (cpar c) := by rw [← hdP]; exact hP
          have hpn2 : apt (nd2 (!d) (r' + 2) p k (nd2 (!d) ry y ky O I) t) c := by rw [← hdP]; exact hpn
          have fin : ∀ (τ' τm' : Tau) (T1 : Gt), fX7_turnAfterRemoving F τ (nI p) (nI y) (b2i (!d)) = some τ' → fX9_turnsDown F (flat τm) (nI p) (nI y) (b2i d) = some (flat τm') → sm A0 τ' τm' → rep τ' T1 (cpar c) → repc τ' c (trt T1) → (tsl T1).Perm (tsl (nd2 d (r' + 2) p k t (nd2 (!d) ry y ky O I))) → tks T1 = tks (nd2 d (r' + 2) p k t (nd2 (!d) ry y ky O I)) → wv T1 → trk T1 = r' + 2 → kp τ τ' →
              ∃ τ' τm' t', fX7_mendGap_8 F (n + 1) τ (trt t) (cpar ((d, r' + 2, p, k, nd2 (!d) ry y ky O I) :: c)) (nI i) = some τ' ∧ fX9_falls_5 F (m + 2) (flat τm) (cpar ((d, r' + 2, p, k, nd2 (!d) ry y ky O I) :: c)) (b2i (cdir ((d, r' + 2, p, k, nd2 (!d) ry y ky O I) :: c))) = some (flat τm') ∧ sm A0 τ' τm' ∧ rep τ' t' (-1) ∧ τ' 6 0 = trt t' ∧ wv t' ∧ (tsl t').Perm (tsl t ++ csl ((d, r' + 2, p, k, nd2 (!d) ry y ky O I) :: c)) ∧ tks t' = tks (plug ((d, r' + 2, p, k, nd2 (!d) ry y ky O I) :: c) t) ∧ kp τ τ' := by
            intro τ' τm' T1 b1 b2 b3 b4 b5 b6 b7 b8 b9 b10
            have hpl := (rep_plug c T1).mpr ⟨b4, b5⟩
            refine ⟨τ', τm', plug c T1, ?_, ?_, b3, hpl.1, hpl.2, ?_, ?_, ?_, b10⟩
            · show fX7_mendGap_8 F (n + 1) τ (trt t) (nI p) (nI i) = _
              rw [hC8]
              unfold fX7_mendGap_71
              rw [cg_child hp60, ho, Option.bind_some, hsto, w2, Option.bind_some, if_neg (by decide), c_long hro v1 v2, Option.bind_some, if_neg hb, if_pos rfl]
              cases d
              · rw [if_pos (show b2i false = 0 from rfl)]
                show (fX7_turnAfterRemoving F τ (nI p) (nI y) (b2i (!false))).bind _ = _
                rw [b1, Option.bind_some]
              · rw [if_neg (show ¬ b2i true = 0 by decide)]
                show (fX7_turnAfterRemoving F τ (nI p) (nI y) (b2i (!true))).bind _ = _
                rw [b1, Option.bind_some]
            · show fX9_falls_5 F (m + 2) (flat τm) (nI p) (b2i d) = _
              rw [hM5, m_long (sm_rep hs hro) hp60 hrkm hcom v1 v2 w2, if_neg hb]
              unfold fX9_falls_92 fX9_falls_93
              rw [mg_parent hp60, h5m, Option.bind_some, hstom, w2, Option.bind_some, if_neg (by decide), if_pos rfl, b2, Option.bind_some]
              exact falls_stop _ _ _ _
            · rw [wv_plug, b9]
              exact ⟨w5, b8⟩
            · exact (tsl_plug c T1).trans ((b6.append_right _).trans hpermP)
            · exact tks_plug_congr b7
          by_cases hO1 : (ry : Int) - trk O = 1
          · obtain ⟨τ', τm', rp', b1, b2, b3, b4, b5, b6, b7⟩ := dn_single (F := F) hP2 hcc hpn2 hs hO1
            rw [Bool.not_not] at b2
            refine fin τ' τm' _ b1 b2 b3 b4 (by rw [trt_nd2]; exact b5) ?_ ?_ ?_ (by rw [trk_nd2]; omega) b6
            · rw [hdP, List.perm_iff_count]
              intro z
              have q1 := (List.perm_iff_count.mp (tsl_nd2 (!d) (ry + 1) y ky O (nd2 (!d) rp' p k I t))) z
              have q2 := (List.perm_iff_count.mp (tsl_nd2 (!d) rp' p k I t)) z
              have q3 := (List.perm_iff_count.mp (tsl_nd2 (!d) (r' + 2) p k (nd2 (!d) ry y ky O I) t)) z
              have q4 := (List.perm_iff_count.mp (tsl_nd2 (!d) ry y ky O I)) z
              simp only [List.count_cons, List.count_append] at q1 q2 q3 q4 ⊢
              omega
            · rw [hdP]
              exact tks_rot _ _ _ _ _ _ _ _ _ _ _ _
            · have hgt := trk_ge I
              refine wv_nd2.mpr ⟨Or.inr (by omega), ?_, fun _ e => absurd e (nd2_ne _ _ _ _ _ _), v4, wv_nd2.mpr ⟨?_, ?_, fun e1 e2 => ?_, v5, hw⟩⟩
              · rw [trk_nd2]
                rcases b7 with ⟨-, rfl⟩ | ⟨-, rfl⟩
                · exact Or.inr (by omega)
                · exact Or.inl (by omega)
              · rcases b7 with ⟨⟨eI, et⟩, rfl⟩ | ⟨-, rfl⟩
                · subst eI; subst et
                  simp only [trk] at h3 v2 ⊢
                  exact Or.inl (by omega)
                · rcases v2 with v | v
                  · exact Or.inl (by omega)
                  · exact Or.inr (by omega)
              · rcases b7 with ⟨⟨eI, et⟩, rfl⟩ | ⟨-, rfl⟩
                · subst eI; subst et
                  simp only [trk] at h3 ⊢
                  exact Or.inl (by omega)
                · exact Or.inr (by omega)
              · rcases b7 with ⟨-, rfl⟩ | ⟨hne, rfl⟩
                · subst e2
                  simp only [trk] at h3
                  omega
                · exact absurd ⟨e1, e2⟩ hne
          · have hO2 : (ry : Int) - trk O = 2 := by rcases v1 with v | v <;> omega
            have hI1 : (ry : Int) - trk I = 1 := by
              rcases v2 with v | v
              · exact v
              · exact absurd ⟨hO2, v⟩ hb
            rcases gt_cases2 (!d) I with h | ⟨rv, v, kv, V1, V2, rfl⟩
            · subst h; simp only [trk] at hI1; omega
            obtain ⟨ry', rfl⟩ : ∃ k, ry = k + 1 := ⟨ry - 1, by omega⟩
            rw [trk_nd2] at hI1
            obtain ⟨u1', u2', u3', u4', u5'⟩ := wv_nd2.mp v5
            obtain ⟨τ', τm', b1, b2, b3, b4, b5, b6⟩ := dn_double (F := F) hP2 hcc hpn2 hs hO2
            rw [Bool.not_not] at b2
            refine fin τ' τm' _ b1 b2 b3 b4 (by rw [trt_nd2]; exact b5) ?_ ?_ ?_ (by rw [trk_nd2]; omega) b6
            · rw [hdP, List.perm_iff_count]
              intro z
              have q1 := (List.perm_iff_count.mp (tsl_nd2 (!d) (rv + 2) v kv (nd2 (!d) ry' y ky O V1) (nd2 (!d) r' p k V2 t))) z
              have q2 := (List.perm_iff_count.mp (tsl_nd2 (!d) ry' y ky O V1)) z
              have q3 := (List.perm_iff_count.mp (tsl_nd2 (!d) r' p k V2 t)) z
              have q4 := (List.perm_iff_count.mp (tsl_nd2 (!d) (r' + 2) p k (nd2 (!d) (ry' + 1) y ky O (nd2 (!d) rv v kv V1 V2)) t)) z
              have q5 := (List.perm_iff_count.mp (tsl_nd2 (!d) (ry' + 1) y ky O (nd2 (!d) rv v kv V1 V2))) z
              have q6 := (List.perm_iff_count.mp (tsl_nd2 (!d) rv v kv V1 V2)) z
              simp only [List.count_cons, List.count_append] at q1 q2 q3 q4 q5 q6 ⊢
              omega
            · cases d <;> simp [nd2, tks]
            · refine wv_nd2.mpr ⟨Or.inr (by rw [trk_nd2]; omega), Or.inr (by rw [trk_nd2]; omega), fun e => absurd e (nd2_ne _ _ _ _ _ _), wv_nd2.mpr ⟨Or.inl (by omega), ?_, fun e1 e2 => ?_, v4, u4'⟩, wv_nd2.mpr ⟨?_, Or.inl (by omega), fun e1 e2 => ?_, u5', hw⟩⟩
              · rcases u1' with u | u
                · exact Or.inl (by omega)
                · exact Or.inr (by omega)
              · subst e1
                simp only [trk] at hO2
                omega
              · rcases u2' with u | u
                · exact Or.inl (by omega)
                · exact Or.inr (by omega)
              · subst e2
                simp only [trk] at h3
                omega
      · -- the sibling is two below: p is demoted
        have hs1 := sm_cnt (sm_add hs p (-1)) (show 1 < 3 by omega)
        have e1 : u2 τ 2 p (τ 2 p + -1) 8 1 = τ 8 1 := by rw [u2_row _ _ (by omega)]
        generalize hT : u2 (u2 τ 2 p (τ 2 p + -1)) 8 1 (u2 τ 2 p (τ 2 p + -1) 8 1 + 1) = T at hs1
        have hrT : rep T (nd2 d (r' + 1) p k t (nd2 (!d) ry y ky O I)) (cpar c) := by
          rw [← hT, show τ 2 p + -1 = nI (r' + 1) by rw [hrk]; exact nI_less (r' + 1)]
          have q1 := rep_row (τ' := u2 (u2 τ 2 p (nI (r' + 1))) 8 1 (u2 τ 2 p (nI (r' + 1)) 8 1 + 1)) (rep_setR p (r' + 1) hP) (fun r hr => u2_row _ _ (by omega))
          simp only [setR_nd2, setR_no p _ pt, setR_no p _ pO, setR_no p _ pI, if_true, if_neg pyn] at q1
          exact q1
        have hcT : repc T c (nI p) := by
          rw [← hT]
          exact repc_row (repc_u2 hcc pcc) (fun r hr => u2_row _ _ (by omega))
        have hT5 : T 5 p = cpar c := (rep_nd2.mp hrT).2.2.2.2.2.1
        obtain ⟨τ', τm', t', a1, a2, a3⟩ := goon T _ (nd2 (!d) ry y ky O I) hs1 hrT hcT (List.Perm.refl _) rfl w4 (Or.inl (by rw [trk_nd2]; omega)) (nd2_ne _ _ _ _ _ _)
          (by rw [← hT]; exact ⟨by simp only [u2_row _ _ (show (0 : Nat) ≠ 8 by omega), u2_row _ _ (show (0 : Nat) ≠ 2 by omega)], by simp only [u2_row _ _ (show (1 : Nat) ≠ 8 by omega), u2_row _ _ (show (1 : Nat) ≠ 2 by omega)], by simp only [u2_row _ _ (show (6 : Nat) ≠ 8 by omega), u2_row _ _ (show (6 : Nat) ≠ 2 by omega)]⟩)
        refine ⟨τ', τm', t', ?_, ?_, a3⟩
        · show fX7_mendGap_8 F (n + 1) τ (trt t) (nI p) (nI i) = _
          rw [hC8]
          unfold fX7_mendGap_71
          rw [cg_child hp60, ho, Option.bind_some, hsto, w2, Option.bind_some, if_pos (by decide)]
          unfold fX7_mendGap_125 fX7_demote
          rw [cg_addRank hp60, Option.bind_some, Option.bind_some, hT, cg_parent hp60, hT5, Option.bind_some, nI_1]
          exact a1
        · show fX9_falls_5 F (m + 2) (flat τm) (nI p) (b2i d) = _
          rw [hM5]
          unfold fX9_falls_38
          rw [mg_child hp60, hcom, Option.bind_some, hstom, w2, Option.bind_some, if_neg (by decide)]
          unfold fX9_falls_92 fX9_falls_93
          rw [mg_parent hp60, h5m, Option.bind_some, hstom, w2, Option.bind_some, if_pos (by decide)]
          unfold fX9_falls_119
          rw [mg_ranks hp60, Option.bind_some, mg_counts1, Option.bind_some, if_pos rfl, falls_147 hp60 (sm_repc hs1 hcT) pcc]
          exact a2
