/-! ===== the way up after a key has come, both sides in step ===== -/
def shp (t : Gt) : Prop := trk t = 0 ∨ ∃ (d : Bool) (r s : Nat) (k : Int32) (a b : Gt), t = nd2 d r s k a b ∧ (r : Int) - trk a = 1 ∧ (r : Int) - trk b = 2
theorem n60le {i : Nat} (h : i < 60) : ¬ (60 : Int32) ≤ nI i := fun q => absurd (nI60 h) (Int32.not_lt.mpr q)
theorem kp_rfl (τ : Tau) : kp τ τ := ⟨rfl, rfl, rfl⟩
theorem kp_tr {a b c : Tau} (h : kp a b) (g : kp b c) : kp a c := ⟨g.1.trans h.1, g.2.1.trans h.2.1, g.2.2.trans h.2.2⟩
theorem rises_stop (F m : Nat) (now : Nat → Int32) (x : Int32) : fX9_rises_4 F (m + 1) now x 0 = some now := by
  rw [fX9_rises_4, if_pos rfl]
theorem tks_plug_congr {c : List Fr} {t t' : Gt} (h : tks t = tks t') : tks (plug c t) = tks (plug c t') := by rw [tks_plug, tks_plug, h]
theorem tks_nd2_r (d : Bool) (r r' s : Nat) (k : Int32) (a b : Gt) : tks (nd2 d r s k a b) = tks (nd2 d r' s k a b) := by cases d <;> rfl
theorem nd2_shape {d : Bool} {r s : Nat} {k : Int32} {a b : Gt} (h : shp (nd2 d r s k a b)) (h0 : r ≠ 0) : (r : Int) - trk a = 1 ∧ (r : Int) - trk b = 2 ∨ (r : Int) - trk a = 2 ∧ (r : Int) - trk b = 1 := by
  rcases h with h | ⟨d2, r2, s2, k2, a2, b2, e, h1, h2⟩
  · rw [trk_nd2] at h; omega
  · cases d <;> cases d2 <;> (simp only [nd2] at e; cases e; first | exact Or.inl ⟨h1, h2⟩ | exact Or.inr ⟨h2, h1⟩)
theorem rise {F : Nat} {A0 : Nat → Int32} : ∀ (c : List Fr) (t : Gt) (τ τm : Tau) (q : Int) (i n m : Nat), rep τ t (cpar c) → repc τ c (trt t) → apt t c → sm A0 τ τm → t ≠ .leaf → wv t → wc c q → trk t = q + 1 → shp t → i + c.length < 60 → c.length < n → c.length + 1 < m →
    ∃ τ' τm' t', fX7_mendUpwards_14 F n τ (trt t) (cpar c) (nI i) = some τ' ∧ fX9_rises_4 F m (flat τm) (trt t) 1 = some (flat τm') ∧ sm A0 τ' τm' ∧ rep τ' t' (-1) ∧ τ' 6 0 = trt t' ∧ wv t' ∧ (tsl t').Perm (tsl t ++ csl c) ∧ tks t' = tks (plug c t) ∧ kp τ τ'
  | [], t, τ, τm, q, i, n, m, hr, hc, hn, hs, hl, hw, hwc, hq, hsh, hi, hn1, hm => by
    obtain ⟨n, rfl⟩ : ∃ k, n = k + 1 := ⟨n - 1, by simp at hn1; omega⟩
    obtain ⟨m, rfl⟩ : ∃ k, m = k + 2 := ⟨m - 2, by simp at hm; omega⟩
    refine ⟨τ, τm, t, ?_, ?_, hs, hr, hc, hw, ?_, rfl, kp_rfl τ⟩
    · rw [fX7_mendUpwards_14, if_neg (n60le (by simp at hi; omega)), if_pos (show cpar [] = -1 from rfl)]
    · rcases gt_cases t with h | ⟨r, s, k, a, b, rfl⟩
      · exact absurd h hl
      · show fX9_rises_4 F (m + 2) (flat τm) (nI s) 1 = _
        have h5 : τm 5 s = -1 := by rw [hs.1 5 (by omega)]; exact hr.2.2.2.2.2.1
        rw [fX9_rises_4, if_neg (by decide), mg_parent hr.1, Option.bind_some, h5, if_pos rfl]
        unfold fX9_rises_36 fX9_rises_37
        rw [if_pos rfl]; exact rises_stop _ _ _ _
    · rw [csl, List.append_nil]
  | (d, r, p, k, o) :: c, t, τ, τm, q, i, n, m, hr, hc, hn, hs, hl, hw, hwc, hq, hsh, hi, hn1, hm => by
    obtain ⟨n, rfl⟩ : ∃ k, n = k + 1 := ⟨n - 1, by simp at hn1; omega⟩
    obtain ⟨m, rfl⟩ : ∃ k, m = k + 2 := ⟨m - 2, by simp at hm; omega⟩
    simp only [List.length_cons] at hi hn1 hm
    obtain ⟨hp60, hk, hrk, hhl, ho, hpp, hro, hcc⟩ := id hc
    obtain ⟨w1, w2, w3, w4, w5⟩ := id hwc
    rcases gt_cases2 d t with h | ⟨rx, x, kx, A, Y, rfl⟩
    · exact absurd h hl
    rw [trk_nd2] at hq
    rw [trt_nd2] at hc hhl ⊢
    obtain ⟨hx60, hkx, hrx, hlx, hox, hpx, hA, hY⟩ := rep_nd2.mp hr
    have hpn := apt_up.mp hn
    have hnn := apt_nd2.mp hpn
    have xo : x ∉ tsl o := fun e => (List.nodup_append.mp (List.nodup_cons.mp hnn).2).2.2 x (tsl_nd2_mem.mpr (Or.inl rfl)) x (by simp [e]) rfl
    have dl : (τ 3 p = nI x) ↔ d = true := left_is (x := 0) hhl ho hx60 (rep_lt hro) xo
    have hst : fX4_step F τ (nI p) (nI x) = some (oI (r - rx)) := by
      have := cg_st (F := F) hp60 hrk hr
      rw [trt_nd2, trk_nd2] at this
      exact this
    have hstm : fX9_step F (flat τm) (nI p) (nI x) = some (oI (r - rx)) := by
      have := mg_st (F := F) hp60 (show τm 2 p = nI r by rw [hs.1 2 (by omega)]; exact hrk) (sm_rep hs hr)
      rw [trt_nd2, trk_nd2] at this
      exact this
    have h5 : τm 5 x = nI p := by rw [hs.1 5 (by omega)]; exact hpx
    have hP : rep τ (nd2 d r p k (nd2 d rx x kx A Y) o) (cpar c) := rep_nd2.mpr ⟨hp60, hk, hrk, by rw [trt_nd2]; exact hhl, ho, hpp, hr, hro⟩
    by_cases h1 : (r : Int) - rx = 1
    · -- all is right
      refine ⟨τ, τm, plug ((d, r, p, k, o) :: c) (nd2 d rx x kx A Y), ?_, ?_, hs, ?_, ?_, ?_, tsl_plug _ _, rfl, kp_rfl τ⟩
      · show fX7_mendUpwards_14 F (n + 1) τ (nI x) (nI p) (nI i) = _
        rw [fX7_mendUpwards_14, if_neg (n60le (by omega)), if_neg (nI_m1 p (by omega)), hst, h1, Option.bind_some, if_neg (by decide)]
      · rw [fX9_rises_4, if_neg (by decide), mg_parent hx60, Option.bind_some, h5, if_neg (nI_m1 p (by omega)), hstm, h1, Option.bind_some, if_neg (by decide)]
        unfold fX9_rises_36 fX9_rises_37
        rw [if_pos rfl]; exact rises_stop _ _ _ _
      · exact ((rep_plug _ _).mpr ⟨hr, by rw [trt_nd2]; exact hc⟩).1
      · exact ((rep_plug _ _).mpr ⟨hr, by rw [trt_nd2]; exact hc⟩).2
      · rw [wv_plug]
        refine ⟨?_, hw⟩
        rw [trk_nd2]
        exact ⟨Or.inl h1, w2, fun e => by omega, w4, w5⟩
    · have h0 : (r : Int) - rx = 0 := by
        rcases w1 with w | w <;> omega
      have hrr : r = rx := by omega
      subst hrr
      have hC14 : fX7_mendUpwards_14 F (n + 1) τ (nI x) (nI p) (nI i) = fX7_mendUpwards_77 F (fun τ x2 x3 x4 => fX7_mendUpwards_14 F n τ x2 x3 x4) τ (nI x) (nI p) (nI i) (b2i d) (nI p) (nI p) (b2i (!d)) := by
        rw [fX7_mendUpwards_14, if_neg (n60le (by omega)), if_neg (nI_m1 p (by omega)), hst, h0, Option.bind_some, if_pos (by decide), cg_left hp60, Option.bind_some]
        cases d
        · rw [if_neg (fun e => by cases dl.mp e)]
          unfold fX7_mendUpwards_55
          rw [if_pos rfl]; rfl
        · rw [if_pos (dl.mpr rfl)]
          unfold fX7_mendUpwards_55
          rw [if_neg (by decide)]; rfl
      have hM4 : fX9_rises_4 F (m + 2) (flat τm) (nI x) 1 = fX9_rises_67 F (fun now x2 x3 => fX9_rises_4 F (m + 1) now x2 x3) (flat τm) (nI x) 1 (nI p) (b2i d) (nI p) (nI p) (b2i (!d)) := by
        rw [fX9_rises_4, if_neg (by decide), mg_parent hx60, Option.bind_some, h5, if_neg (nI_m1 p (by omega)), hstm, h0, Option.bind_some, if_pos (by decide)]
        unfold fX9_rises_37
        rw [if_neg (by decide), mg_isLeft hp60, Option.bind_some]
        have : decide (τm 3 p = nI x) = d := by
          rw [hs.1 3 (by omega)]
          exact dec_b dl
        rw [this]
        cases d
        · rw [if_pos (show b2i false = 0 from rfl)]; rfl
        · rw [if_neg (show ¬ b2i true = 0 by decide)]; rfl
      have hcm : τm (cc (!d)) p = trt o := by rw [hs.1 _ (by have := cc_le (!d); omega)]; exact ho
      have hrkm : τm 2 p = nI r := by rw [hs.1 2 (by omega)]; exact hrk
      rcases w2 with w2 | w2
      · -- promoted
        have hs1 := sm_cnt (sm_add hs p 1) (show 0 < 3 by omega)
        generalize hT : u2 (u2 τ 2 p (τ 2 p + 1)) 8 0 (u2 τ 2 p (τ 2 p + 1) 8 0 + 1) = T at hs1
        have hpn' := (List.nodup_cons.mp hnn).1
        have pX : p ∉ tsl (nd2 d r x kx A Y) := fun e => hpn' (by simp [e])
        have po : p ∉ tsl o := fun e => hpn' (by simp [e])
        have pcc : p ∉ csl c := fun e => hpn' (by simp [e])
        have e1 : τ 2 p + 1 = nI (r + 1) := by rw [hrk, nI_1]
        have hrep : rep T (nd2 d (r + 1) p k (nd2 d r x kx A Y) o) (cpar c) := by
          rw [← hT, e1]
          have := rep_setR p (r + 1) hP
          rw [setR_nd2, if_pos rfl, setR_no p _ pX, setR_no p _ po] at this
          exact rep_row this (fun r hr => u2_row _ _ (by omega))
        have hrepc : repc T c (nI p) := by
          rw [← hT]
          exact repc_row (repc_u2 hcc pcc) (fun r hr => u2_row _ _ (by omega))
        have hap : apt (nd2 d (r + 1) p k (nd2 d r x kx A Y) o) c := apt_perm hpn ((tsl_nd2 _ _ _ _ _ _).trans (tsl_nd2 _ _ _ _ _ _).symm)
        obtain ⟨τ', τm', t', a1, a2, a3, a4, a5, a6, a7, a8, a9⟩ := rise c (nd2 d (r + 1) p k (nd2 d r x kx A Y) o) T (cntM (u2 τm 2 p (τm 2 p + 1)) 0) r (i + 1) n (m + 1) hrep (by rw [trt_nd2]; exact hrepc) hap hs1 (nd2_ne _ _ _ _ _ _)
          (wv_nd2.mpr ⟨Or.inl (by rw [trk_nd2]; omega), Or.inr (by omega), fun e => absurd e (nd2_ne _ _ _ _ _ _), hw, w4⟩) w5 (by rw [trk_nd2]; omega) (Or.inr ⟨d, r + 1, p, k, _, o, rfl, by rw [trk_nd2]; omega, by omega⟩) (by omega) (by omega) (by omega)
        rw [trt_nd2] at a1 a2
        refine ⟨τ', τm', t', ?_, ?_, a3, a4, a5, a6, ?_, ?_, ?_⟩
        · show fX7_mendUpwards_14 F (n + 1) τ (nI x) (nI p) (nI i) = _
          rw [hC14]
          unfold fX7_mendUpwards_77
          rw [cg_child hp60, ho, Option.bind_some, cg_st hp60 hrk hro, w2, Option.bind_some, if_pos (by decide)]
          unfold fX7_promote
          rw [cg_addRank hp60, Option.bind_some, Option.bind_some, hT, cg_parent hp60, Option.bind_some]
          have : T 5 p = cpar c := (rep_nd2.mp hrep).2.2.2.2.2.1
          rw [this, nI_1]
          exact a1
        · rw [hM4]
          unfold fX9_rises_67
          rw [mg_child hp60, hcm, Option.bind_some, mg_st hp60 hrkm (sm_rep hs hro), w2, Option.bind_some, if_pos (by decide), mg_ranks hp60, Option.bind_some]
          show (fX9_counts F (flat _) (nI 0)).bind _ = _
          rw [mg_counts (by omega), Option.bind_some]
          exact a2
        · refine a7.trans ?_
          refine List.Perm.trans ?_ (show (tsl (nd2 d r p k (nd2 d r x kx A Y) o) ++ csl c).Perm (tsl (nd2 d r x kx A Y) ++ csl ((d, r, p, k, o) :: c)) from ?_)
          · exact ((tsl_nd2 _ _ _ _ _ _).trans (tsl_nd2 _ _ _ _ _ _).symm).append_right _
          · refine ((tsl_nd2 d r p k _ o).append_right _).trans ?_
            show (p :: (tsl (nd2 d r x kx A Y) ++ tsl o) ++ csl c).Perm (tsl (nd2 d r x kx A Y) ++ p :: (tsl o ++ csl c))
            simp only [List.cons_append, List.append_assoc]
            exact List.perm_middle.symm
        · rw [a8]
          show tks (plug c (nd2 d (r + 1) p k (nd2 d r x kx A Y) o)) = tks (plug c (nd2 d r p k (nd2 d r x kx A Y) o))
          exact tks_plug_congr (tks_nd2_r _ _ _ _ _ _ _)
        · refine kp_tr ?_ a9
          rw [← hT]
          exact ⟨by rw [u2_row _ _ (by omega), u2_row _ _ (by omega)], by rw [u2_row _ _ (by omega), u2_row _ _ (by omega)], by rw [u2_row _ _ (by omega), u2_row _ _ (by omega)]⟩
      · -- turned
        have hog := trk_ge o
        obtain ⟨r', rfl⟩ : ∃ k, r = k + 1 := ⟨r - 1, by omega⟩
        have hsp := nd2_shape hsh (by omega)
        obtain ⟨v1, v2, v3, v4, v5⟩ := wv_nd2.mp hw
        have fin : ∀ (τ' τm' : Tau) (T1 : Gt) (z : Nat), fX7_turnAfterAdding F τ (nI p) (nI x) (b2i d) = some τ' → fX9_turnsUp F (flat τm) (nI x) (nI p) (trt Y) = some (flat τm') → sm A0 τ' τm' → rep τ' T1 (cpar c) → repc τ' c (trt T1) → (tsl T1).Perm (tsl (nd2 d (r' + 1) p k (nd2 d (r' + 1) x kx A Y) o)) → tks T1 = tks (nd2 d (r' + 1) p k (nd2 d (r' + 1) x kx A Y) o) → wv T1 → trk T1 = r' + 1 → kp τ τ' →
            ∃ τ' τm' t', fX7_mendUpwards_14 F (n + 1) τ (nI x) (cpar ((d, r' + 1, p, k, o) :: c)) (nI i) = some τ' ∧ fX9_rises_4 F (m + 2) (flat τm) (nI x) 1 = some (flat τm') ∧ sm A0 τ' τm' ∧ rep τ' t' (-1) ∧ τ' 6 0 = trt t' ∧ wv t' ∧ (tsl t').Perm (tsl (nd2 d (r' + 1) x kx A Y) ++ csl ((d, r' + 1, p, k, o) :: c)) ∧ tks t' = tks (plug ((d, r' + 1, p, k, o) :: c) (nd2 d (r' + 1) x kx A Y)) ∧ kp τ τ' := by
          intro τ' τm' T1 z b1 b2 b3 b4 b5 b6 b7 b8 b9 b10
          have hpl := (rep_plug c T1).mpr ⟨b4, b5⟩
          refine ⟨τ', τm', plug c T1, ?_, ?_, b3, hpl.1, hpl.2, ?_, ?_, ?_, b10⟩
          · show fX7_mendUpwards_14 F (n + 1) τ (nI x) (nI p) (nI i) = _
            rw [hC14]
            unfold fX7_mendUpwards_77
            rw [cg_child hp60, ho, Option.bind_some, cg_st hp60 hrk hro, w2, Option.bind_some, if_neg (by decide), b1, Option.bind_some]
          · rw [hM4]
            unfold fX9_rises_67
            rw [mg_child hp60, hcm, Option.bind_some, mg_st hp60 hrkm (sm_rep hs hro), w2, Option.bind_some, if_neg (by decide)]
            have h111 : fX9_rises_111 F (fun now x2 x3 => fX9_rises_4 F (m + 1) now x2 x3) (flat τm) (nI x) (nI x) (nI p) (nI x) (b2i (!d)) = some (flat τm') := by
              unfold fX9_rises_111
              rw [mg_child hx60, hs.1 _ (by have := cc_le (!d); omega), hox, Option.bind_some, b2, Option.bind_some]; exact rises_stop _ _ _ _
            cases d
            · rw [if_pos (show b2i false = 0 from rfl)]; exact h111
            · rw [if_neg (show ¬ b2i true = 0 by decide)]; exact h111
          · rw [wv_plug, b9]
            exact ⟨w5, b8⟩
          · refine (tsl_plug c T1).trans ((b6.append_right _).trans ?_)
            refine ((tsl_nd2 d (r' + 1) p k _ o).append_right _).trans ?_
            show (p :: (tsl (nd2 d (r' + 1) x kx A Y) ++ tsl o) ++ csl c).Perm (tsl (nd2 d (r' + 1) x kx A Y) ++ p :: (tsl o ++ csl c))
            simp only [List.cons_append, List.append_assoc]
            exact List.perm_middle.symm
          · exact tks_plug_congr b7
        rcases hsp with ⟨sp1, sp2⟩ | ⟨sp1, sp2⟩
        · -- once
          obtain ⟨τ', τm', b1, b2, b3, b4, b5, b6, b7⟩ := up_single (F := F) hP hcc hpn hs sp2
          refine fin τ' τm' _ 0 b1 b2 b3 b4 (by rw [trt_nd2]; exact b5) ?_ (tks_rot _ _ _ _ _ _ _ _ _ _ _ _) ?_ (by rw [trk_nd2]; omega) b7
          · refine (tsl_nd2 _ _ _ _ _ _).trans ?_
            refine List.Perm.trans ?_ (tsl_nd2 _ _ _ _ _ _).symm
            refine (List.Perm.cons x ((tsl_nd2 d r' p k Y o).append_left (tsl A))).trans ?_
            refine List.Perm.trans ?_ (List.Perm.cons p ((tsl_nd2 d (r' + 1) x kx A Y).symm.append_right (tsl o)))
            simp only [List.cons_append, List.append_assoc]
            exact (List.Perm.cons x List.perm_middle).trans (List.Perm.swap _ _ _)
          · refine wv_nd2.mpr ⟨Or.inl sp1, Or.inl (by rw [trk_nd2]; omega), fun _ e => absurd e (nd2_ne _ _ _ _ _ _), v4, wv_nd2.mpr ⟨Or.inl (by omega), Or.inl (by omega), fun e1 e2 => ?_, v5, w4⟩⟩
            subst e2
            simp [trk] at w2
            omega
        · -- twice
          rcases gt_cases2 d Y with h | ⟨ry, y, ky, Y1, Y2, rfl⟩
          · subst h
            simp [trk] at sp2
            omega
          rw [trk_nd2] at sp2
          obtain ⟨u1', u2', u3', u4', u5'⟩ := wv_nd2.mp v5
          obtain ⟨τ', τm', b1, b2, b3, b4, b5, b6, b7⟩ := up_double (F := F) hP hcc hpn hs (by omega)
          refine fin τ' τm' _ 0 b1 (by rw [trt_nd2]; exact b2) b3 b4 (by rw [trt_nd2]; exact b5) ?_ ?_ ?_ (by rw [trk_nd2]; omega) b7
          · refine (tsl_nd2 _ _ _ _ _ _).trans ?_
            refine (List.Perm.cons y (((tsl_nd2 d r' x kx A Y1)).append (tsl_nd2 d r' p k Y2 o))).trans ?_
            refine List.Perm.trans ?_ (tsl_nd2 _ _ _ _ _ _).symm
            refine List.Perm.trans ?_ (List.Perm.cons p ((tsl_nd2 d (r' + 1) x kx A _).symm.append_right (tsl o)))
            refine List.Perm.trans ?_ (List.Perm.cons p ((List.Perm.cons x ((tsl_nd2 d ry y ky Y1 Y2).symm.append_left (tsl A))).append_right (tsl o)))
            rw [List.perm_iff_count]
            intro a
            simp only [List.count_cons, List.count_append]
            omega
          · cases d <;> simp [nd2, tks]
          · have hA1 := trk_ge A
            refine wv_nd2.mpr ⟨Or.inl (by rw [trk_nd2]; omega), Or.inl (by rw [trk_nd2]; omega), fun e => absurd e (nd2_ne _ _ _ _ _ _), wv_nd2.mpr ⟨Or.inl (by omega), ?_, fun e1 e2 => ?_, v4, u4'⟩, wv_nd2.mpr ⟨?_, Or.inl (by omega), fun e1 e2 => ?_, u5', w4⟩⟩
            · rcases u1' with u | u
              · exact Or.inl (by omega)
              · exact Or.inr (by omega)
            · subst e1
              simp [trk] at sp1
              omega
            · rcases u2' with u | u
              · exact Or.inl (by omega)
              · exact Or.inr (by omega)
            · subst e2
              simp [trk] at w2
              omega
