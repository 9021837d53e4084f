/-! ===== a key goes ===== -/
theorem plug_app : ∀ (c1 c2 : List Fr) (t : Gt), plug (c1 ++ c2) t = plug c2 (plug c1 t)
  | [], c2, t => rfl
  | (d, r, s, k, o) :: c1, c2, t => plug_app c1 c2 _
theorem ckl_app : ∀ (c1 c2 : List Fr), ckl (c1 ++ c2) = ckl c2 ++ ckl c1
  | [], c2 => by simp [ckl]
  | (d, r, s, k, o) :: c1, c2 => by
    show ckl (c1 ++ c2) ++ _ = _
    rw [ckl_app c1 c2]
    simp [ckl]
theorem ckr_app : ∀ (c1 c2 : List Fr), ckr (c1 ++ c2) = ckr c1 ++ ckr c2
  | [], c2 => by simp [ckr]
  | (d, r, s, k, o) :: c1, c2 => by
    show _ ++ ckr (c1 ++ c2) = _
    rw [ckr_app c1 c2]
    simp [ckr]
theorem csl_app : ∀ (c1 c2 : List Fr), csl (c1 ++ c2) = csl c1 ++ csl c2
  | [], c2 => rfl
  | (d, r, s, k, o) :: c1, c2 => by
    show s :: (tsl o ++ csl (c1 ++ c2)) = _
    rw [csl_app c1 c2]
    simp [csl]
theorem locate : ∀ {t : Gt} {s : Nat}, s ∈ tsl t → ∃ c r k a b, t = plug c (nd r s k a b)
  | .leaf, s, h => by cases h
  | .inner r q k a b, s, h => by
    rcases List.mem_append.mp h with h | h
    · obtain ⟨c, r', k', a', b', e⟩ := locate h
      exact ⟨c ++ [(true, r, q, k, b)], r', k', a', b', by rw [plug_app, ← e]; rfl⟩
    · rcases List.mem_cons.mp h with rfl | h
      · exact ⟨[], r, k, a, b, rfl⟩
      · obtain ⟨c, r', k', a', b', e⟩ := locate h
        exact ⟨c ++ [(false, r, q, k, a)], r', k', a', b', by rw [plug_app, ← e]; rfl⟩
/-- the least below, as both find it -/
theorem least_ok {F : Nat} {τ : Tau} : ∀ (t : Gt) (p : Int32) (i n m : Nat), rep τ t p → t ≠ .leaf → i + (tsl t).length ≤ 60 → (tsl t).length < n → (tsl t).length < m →
    ∃ cb r' g kg bb, t = plug cb (nd r' g kg .leaf bb) ∧ ckl cb = [] ∧ fX4_endOf_5 F τ n 1 (trt t) (nI i) = some (nI g) ∧ fX9_leastBelow_2 F (flat τ) m (trt t) = some (nI g)
  | .leaf, _, _, _, _, _, h, _, _, _ => absurd rfl h
  | .inner r s k a b, p, i, n, m, hr, _, hi, hn, hm => by
    obtain ⟨n, rfl⟩ : ∃ z, n = z + 1 := ⟨n - 1, by omega⟩
    obtain ⟨m, rfl⟩ : ∃ z, m = z + 1 := ⟨m - 1, by omega⟩
    obtain ⟨h1, h2, h3, h4, h5, h6, h7, h8⟩ := hr
    simp only [tsl, List.length_append, List.length_cons] at hi hn hm
    have hC : fX4_endOf_5 F τ (n + 1) 1 (nI s) (nI i) = if trt a = -1 then some (nI s) else fX4_endOf_5 F τ n 1 (trt a) (nI (i + 1)) := by
      rw [fX4_endOf_5, if_neg (n60le (by omega)), cg_child1 h1, h4, Option.bind_some, Option.bind_some, nI_1]
    have hM : fX9_leastBelow_2 F (flat τ) (m + 1) (nI s) = if trt a = -1 then some (nI s) else fX9_leastBelow_2 F (flat τ) m (trt a) := by
      rw [fX9_leastBelow_2, mg_left h1, h4, Option.bind_some, Option.bind_some]
    rcases gt_cases a with ha | ⟨r2, s2, k2, a2, b2, ha⟩
    · subst ha
      exact ⟨[], r, s, k, b, rfl, rfl, hC, hM⟩
    · have hne : a ≠ .leaf := by rw [ha]; intro e; cases e
      obtain ⟨cb, r', g, kg, bb, e1, e2, e3, e4⟩ := least_ok (F := F) a (nI s) (i + 1) n m h7 hne (by omega) (by omega) (by omega)
      have hm1 : ¬ trt a = -1 := fun e => hne ((trt_m1 h7).mp e)
      refine ⟨cb ++ [(true, r, s, k, b)], r', g, kg, bb, by rw [plug_app, ← e1]; rfl, by rw [ckl_app, e2]; rfl, ?_, ?_⟩
      · show fX4_endOf_5 F τ (n + 1) 1 (nI s) (nI i) = _
        rw [hC, if_neg hm1, e3]
      · show fX9_leastBelow_2 F (flat τ) (m + 1) (nI s) = _
        rw [hM, if_neg hm1, e4]
/-- another key for a slot -/
def setK (s : Nat) (k' : Int32) : Gt → Gt
  | .leaf => .leaf
  | .inner r q k a b => .inner r q (if q = s then k' else k) (setK s k' a) (setK s k' b)
theorem setK_nd2 (s : Nat) (k' : Int32) (d : Bool) (r q : Nat) (k : Int32) (a b : Gt) : setK s k' (nd2 d r q k a b) = nd2 d r q (if q = s then k' else k) (setK s k' a) (setK s k' b) := by cases d <;> rfl
theorem setK_trt (s : Nat) (k' : Int32) (t : Gt) : trt (setK s k' t) = trt t := by cases t <;> rfl
theorem setK_no (s : Nat) (k' : Int32) : ∀ {t : Gt}, s ∉ tsl t → setK s k' t = t
  | .leaf, _ => rfl
  | .inner r q k a b, h => by
    have h1 : s ∉ tsl a := fun e => h (by simp [tsl, e])
    have h2 : s ∉ tsl b := fun e => h (by simp [tsl, e])
    have h3 : q ≠ s := fun e => h (by simp [tsl, e])
    show Std.DTreeMap.Internal.Impl.inner r q (if q = s then k' else k) (setK s k' a) (setK s k' b) = _
    rw [setK_no s k' h1, setK_no s k' h2, if_neg h3]
theorem rep_setK {τ : Tau} (s : Nat) (k' : Int32) : ∀ {t : Gt} {p : Int32}, rep τ t p → rep (u2 τ 0 s k') (setK s k' t) p
  | .leaf, _, _ => trivial
  | .inner r q k a b, p, h => by
    obtain ⟨h1, h2, h3, h4, h5, h6, h7, h8⟩ := h
    refine ⟨h1, ?_, ?_, ?_, ?_, ?_, rep_setK s k' h7, rep_setK s k' h8⟩
    · rw [u2_app]
      by_cases e : q = s
      · rw [if_pos ⟨rfl, e⟩, if_pos e]
      · rw [if_neg (fun z => e z.2), if_neg e]; exact h2
    · rw [u2_row _ _ (by omega)]; exact h3
    · rw [u2_row _ _ (by omega), setK_trt]; exact h4
    · rw [u2_row _ _ (by omega), setK_trt]; exact h5
    · rw [u2_row _ _ (by omega)]; exact h6
theorem setK_plug (s : Nat) (k' : Int32) : ∀ (c : List Fr) (t : Gt), s ∉ csl c → setK s k' (plug c t) = plug c (setK s k' t)
  | [], t, _ => rfl
  | (d, r, q, k, o) :: c, t, h => by
    have h1 : q ≠ s := fun e => h (by simp [csl, e])
    have h2 : s ∉ tsl o := fun e => h (by simp [csl, e])
    have h3 : s ∉ csl c := fun e => h (by simp [csl, e])
    show setK s k' (plug c (nd2 d r q k t o)) = plug c (nd2 d r q k (setK s k' t) o)
    rw [setK_plug s k' c _ h3, setK_nd2, if_neg h1, setK_no s k' h2]
theorem wc_key (d : Bool) (r s : Nat) (k k' : Int32) (a : Gt) (c : List Fr) : ∀ (cb : List Fr) (q : Int), wc (cb ++ (d, r, s, k, a) :: c) q → wc (cb ++ (d, r, s, k', a) :: c) q
  | [], q, h => h
  | (d2, r2, s2, k2, o2) :: cb, q, h => ⟨h.1, h.2.1, h.2.2.1, h.2.2.2.1, wc_key d r s k k' a c cb r2 h.2.2.2.2⟩
theorem csl_key (d : Bool) (r s : Nat) (k k' : Int32) (a : Gt) (c cb : List Fr) : csl (cb ++ (d, r, s, k, a) :: c) = csl (cb ++ (d, r, s, k', a) :: c) := by
  rw [csl_app, csl_app]; rfl
/-- a node with one child at most goes -/
theorem rm_core {F : Nat} (hF : 100 ≤ F) {A0 : Nat → Int32} {τ : Tau} {C : List Fr} {rg g : Nat} {kg : Int32} {A B h : Gt} (hr : rep τ (nd rg g kg A B) (cpar C)) (hc : repc τ C (nI g)) (hn : apt (nd rg g kg A B) C) (hw : wv (nd rg g kg A B)) (hwc : wc C rg) (hs : sm A0 τ τ) (hh : A = .leaf ∧ h = B ∨ A ≠ .leaf ∧ B = .leaf ∧ h = A) (hlen : (csl C).length < 60) :
    ∃ τ' t', fX7_remove_64 F τ (nI g) = some τ' ∧ fX9_takes_61 F (flat τ) (nI g) = some (flat τ') ∧ rep τ' t' (-1) ∧ τ' 6 0 = trt t' ∧ wv t' ∧ (tsl t').Perm (tsl h ++ csl C) ∧ tks t' = ckl C ++ tks h ++ ckr C ∧ τ' 0 = u2 τ 0 g (-1) 0 ∧ τ' 1 = τ 1 ∧ τ' 6 1 = τ 6 1 - 1 := by
  obtain ⟨hg60, hkg, hrg, hlg, hog, hpg, hA, hB⟩ := id hr
  obtain ⟨v1, v2, v3, v4, v5⟩ := id hw
  have hrh : rep τ h (nI g) := by
    rcases hh with ⟨-, e⟩ | ⟨-, -, e⟩
    · rw [e]; exact hB
    · rw [e]; exact hA
  have hwh : wv h := by
    rcases hh with ⟨-, e⟩ | ⟨-, -, e⟩
    · rw [e]; exact v5
    · rw [e]; exact v4
  have hth : (tsl (nd rg g kg A B)).Perm (g :: tsl h) := by
    show (tsl A ++ g :: tsl B).Perm _
    rcases hh with ⟨e1, e2⟩ | ⟨-, e1, e2⟩
    · subst e1; subst e2; exact List.Perm.refl _
    · subst e1; subst e2
      refine List.perm_middle.trans ?_
      simp [tsl]
  have hkh : trk h = (rg : Int) - 1 := by
    rcases hh with ⟨e1, e2⟩ | ⟨e0, e1, e2⟩
    · subst e1; subst e2
      have hg := trk_ge h
      simp only [trk] at v1
      rcases v1 with v | v <;> rcases v2 with u | u
      · omega
      · omega
      · omega
      · have := v3 rfl (trk_leaf (by omega))
        omega
    · subst e1; subst e2
      have hg := trk_ge h
      simp only [trk] at v2
      rcases v2 with v | v <;> rcases v1 with u | u
      · omega
      · omega
      · omega
      · have := v3 (trk_leaf (by omega)) rfl
        omega
  have hn' : (g :: (tsl h ++ csl C)).Nodup := by
    have := (hth.append_right (csl C)).nodup hn
    simpa using this
  obtain ⟨gn, hn2⟩ := List.nodup_cons.mp hn'
  have gh : g ∉ tsl h := fun e => gn (by simp [e])
  have gC : g ∉ csl C := fun e => gn (by simp [e])
  have hn3 := List.nodup_append.mp hn2
  have slc := cpar_sl hc
  have slh := trt_sl hrh
  generalize hH : hangT τ (cpar C) (cdir C) (trt h) = H
  have hH6 : u2 H 0 g (-1) 6 1 = τ 6 1 := by rw [u2_row _ _ (by omega), ← hH, hang_6, if_neg (by omega)]
  generalize hτ2 : u2 (u2 H 0 g (-1)) 6 1 (u2 H 0 g (-1) 6 1 - 1) = τ2
  have ncg : cpar C ≠ nI g := fun e => gC (cpar_mem hc hg60 e)
  have eP : ∀ (r q : Nat), q < 60 → r < 6 → q ≠ g → τ2 r q = if cpar C = nI q ∧ r = cc (cdir C) then trt h else if trt h = nI q ∧ r = 5 then cpar C else τ r q := by
    intro r q hq hr hne
    rw [← hτ2, u2_row _ _ (by omega), u2_ne _ _ (Or.inr hne), ← hH, hang_app slc slh _ hq hr]
  have hcc5 := cc_le (cdir C)
  have nc : ∀ {q : Nat}, q < 60 → q ∉ csl C → cpar C ≠ nI q := fun hq h e => h (cpar_mem hc hq e)
  have hr2 : rep τ2 h (cpar C) := by
    refine rep_re hrh hn3.1 (fun q hq => ?_) (fun q hq e => ?_)
    · have q60 := rep_lt hrh q hq
      have hne : q ≠ g := fun e => gh (e ▸ hq)
      have hcq := nc q60 (fun e => hn3.2.2 q hq q e rfl)
      have k1 : ∀ r, r < 6 → r ≠ 5 → τ2 r q = τ r q := fun r hr h5 => by rw [eP r q q60 hr hne, if_neg (fun z => hcq z.1), if_neg (fun z => h5 z.2)]
      refine ⟨k1 0 (by omega) (by omega), k1 2 (by omega) (by omega), k1 3 (by omega) (by omega), k1 4 (by omega) (by omega), fun hq5 => ?_⟩
      rw [eP 5 q q60 (by omega) hne, if_neg (fun z => hcq z.1), if_neg (fun z => hq5 z.1.symm)]
    · have hm := trt_mem e hq (rep_lt hrh)
      have hne : q ≠ g := fun e => gh (e ▸ hm)
      have hcq := nc hq (fun e => hn3.2.2 q hm q e rfl)
      rw [eP 5 q hq (by omega) hne, if_neg (fun z => hcq z.1), if_pos ⟨e, rfl⟩]
  have hc2 : repc τ2 C (trt h) := by
    refine repc_re hc hn3.2.1 (fun e => ?_) (fun q hq e => ?_) (fun q hq hne => ?_)
    · subst e
      rw [← hτ2, u2_ne _ _ (Or.inr (by omega)), u2_row _ _ (by omega), ← hH, hang_6, if_pos ⟨rfl, rfl⟩]
    · have hm := cpar_mem hc hq e
      have hne : q ≠ g := fun e => gC (e ▸ hm)
      have hhq : trt h ≠ nI q := trt_ne hq (rep_lt hrh) (fun e => hn3.2.2 q e q hm rfl)
      have k1 : ∀ r, r < 6 → r ≠ cc (cdir C) → τ2 r q = τ r q := fun r hr h5 => by rw [eP r q hq hr hne, if_neg (fun z => h5 z.2), if_neg (fun z => hhq z.1)]
      refine ⟨?_, k1 _ (cc_lt _) (Ne.symm (cc_nn _)), k1 0 (by omega) (by omega), k1 2 (by omega) (by omega), k1 5 (by omega) (by omega), ?_⟩
      · rw [eP _ _ hq (cc_lt _) hne, if_pos ⟨e, rfl⟩]
      · rw [← hτ2, u2_ne _ _ (Or.inr (by omega)), u2_row _ _ (by omega), ← hH, hang_6, if_neg (fun z => nI_m1 q (by omega) (e.symm.trans z.1))]
    · have q60 := repc_lt hc q hq
      have hqg : q ≠ g := fun e => gC (e ▸ hq)
      have hhq : trt h ≠ nI q := trt_ne q60 (rep_lt hrh) (fun e => hn3.2.2 q e q hq rfl)
      have k1 : ∀ r, r < 6 → τ2 r q = τ r q := fun r hr => by rw [eP r q q60 hr hqg, if_neg (fun z => hne z.1), if_neg (fun z => hhq z.1)]
      exact ⟨k1 0 (by omega), k1 2 (by omega), k1 3 (by omega), k1 4 (by omega), k1 5 (by omega)⟩
  have hap2 : apt h C := hn2
  have hs2 : sm A0 τ2 τ2 := by
    refine ⟨fun r _ => rfl, fun j hj => ?_⟩
    have e7 : τ2 7 = τ 7 := by rw [← hτ2, u2_row _ _ (by omega), u2_row _ _ (by omega), ← hH, hang_row _ _ _ _ (by omega)]
    have e8 : τ2 8 = τ 8 := by rw [← hτ2, u2_row _ _ (by omega), u2_row _ _ (by omega), ← hH, hang_row _ _ _ _ (by omega)]
    obtain ⟨g1, g2, g3⟩ := hs.2 j hj
    rw [e7, e8]
    exact ⟨rfl, g2, g3⟩
  have k0 : τ2 0 = u2 τ 0 g (-1) 0 := by
    rw [← hτ2, u2_row _ _ (by omega), ← hH]
    funext q
    rw [u2_app, u2_app, hang_row _ _ _ _ (by omega)]
  have k1 : τ2 1 = τ 1 := by rw [← hτ2, u2_row _ _ (by omega), u2_row _ _ (by omega), ← hH, hang_row _ _ _ _ (by omega)]
  have k6 : τ2 6 1 = τ 6 1 - 1 := by rw [← hτ2, u2_at, hH6]
  -- the first steps of both
  have hC1 : fX4_takeOff F τ (nI g) = some (trt h, τ2) := by
    have h45 : fX4_takeOff_45 F τ (nI g) (trt h) (cpar C) (b2i (cdir C)) = some (trt h, τ2) := by
      unfold fX4_takeOff_45
      rw [cg_hang slc slh, hH, Option.bind_some, if_neg (nI_pos (by omega)), if_neg (fun q => absurd (nI60 hg60) (Int32.not_lt.mpr q)), if_neg (nI_nin hg60 (by omega)), nI_cl hg60, hτ2]
    have h28 : fX4_takeOff_28 F τ (nI g) (cpar C) (trt h) = some (trt h, τ2) := by
      unfold fX4_takeOff_28
      cases C with
      | nil =>
        show (fX4_leftOf F τ (-1)).bind _ = _
        rw [cg_left0, Option.bind_some, if_neg (fun e => nI_m1 g (by omega) e.symm)]
        exact h45
      | cons f C' =>
        obtain ⟨d, r, p, k, o⟩ := f
        obtain ⟨e1, e2, e3, e4, e5, e6, e7, e8⟩ := hc
        have hgd : (τ 3 p = nI g) ↔ d = true := left_is (x := 0) e4 e5 hg60 (rep_lt e7) (fun e => gC (by simp [csl, e]))
        show (fX4_leftOf F τ (nI p)).bind _ = _
        rw [cg_left e1, Option.bind_some]
        cases d
        · rw [if_neg (fun e => by cases hgd.mp e)]; exact h45
        · rw [if_pos (hgd.mpr rfl)]; exact h45
    unfold fX4_takeOff
    rw [cg_parent hg60, hpg, Option.bind_some, cg_left hg60, hlg, Option.bind_some]
    rcases hh with ⟨e1, e2⟩ | ⟨e0, e1, e2⟩
    · rw [if_pos (by rw [e1]; rfl), cg_right hg60, hog, Option.bind_some, ← e2]; exact h28
    · rw [if_neg (fun e => e0 ((trt_m1 hA).mp e)), Option.bind_some, ← e2]; exact h28
  have hM1 : fX9_takes_61 F (flat τ) (nI g) = fX9_takes_86 F (flat τ) (nI g) (trt h) := by
    unfold fX9_takes_61
    rw [mg_left hg60, hlg, Option.bind_some]
    rcases hh with ⟨e1, e2⟩ | ⟨e0, e1, e2⟩
    · rw [if_pos (by rw [e1]; rfl), mg_right hg60, hog, Option.bind_some, ← e2]
    · rw [if_neg (fun e => e0 ((trt_m1 hA).mp e)), Option.bind_some, ← e2]
  have hM2 : fX9_takes_86 F (flat τ) (nI g) (trt h) = fX9_takes_116 F (flat τ) (nI g) (trt h) (cpar C) (b2i (cdir C)) := by
    unfold fX9_takes_86
    rw [mg_parent hg60, hpg, Option.bind_some]
    cases C with
    | nil => rw [if_pos (show cpar [] = -1 from rfl)]; rfl
    | cons f C' =>
      obtain ⟨d, r, p, k, o⟩ := f
      obtain ⟨e1, e2, e3, e4, e5, e6, e7, e8⟩ := hc
      have hgd : (τ 3 p = nI g) ↔ d = true := left_is (x := 0) e4 e5 hg60 (rep_lt e7) (fun e => gC (by simp [csl, e]))
      show (if nI p = -1 then _ else (fX9_isLeftOf F (flat τ) (nI p) (nI g)).bind _) = _
      rw [if_neg (nI_m1 p (by omega)), mg_isLeft e1, dec_b hgd, Option.bind_some]
      cases d
      · rw [if_pos (show b2i false = 0 from rfl)]; rfl
      · rw [if_neg (show ¬ b2i true = 0 by decide)]; rfl
  have hM3 : fX9_takes_116 F (flat τ) (nI g) (trt h) (cpar C) (b2i (cdir C)) = (if cpar C = -1 then fX9_takes_218 F (flat τ2) (cpar C) (b2i (cdir C)) else (fX9_hasNoChildren F (flat τ2) (cpar C)).bind fun q25 => (if q25 = 0 then fX9_takes_218 F (flat τ2) (cpar C) (b2i (cdir C)) else (fX9_of F (flat τ2) (cpar C) (2 : Int32)).bind fun q27 => (if q27 = (1 : Int32) then ((fX9_ranks F (flat τ2) (cpar C) (-1 : Int32)).bind fun q29 => ((fX9_counts F q29 (1 : Int32)).bind fun q30 => ((fX9_of F q30 (cpar C) (5 : Int32)).bind fun q31 => (if q31 = (-1 : Int32) then (fX9_takes_215 F q30 q31) else ((fX9_isLeftOf F q30 q31 (cpar C)).bind fun q33 => (if q33 = 0 then (fX9_takes_215 F q30 q31) else (fX9_takes_216 F q30 q31 (1 : Int32)))))))) else (fX9_takes_218 F (flat τ2) (cpar C) (b2i (cdir C)))))) := by
    unfold fX9_takes_116
    rw [mg_hangs slc slh, hH, Option.bind_some, show fX9_lays F (flat H) (nI g) (0 : Int32) (-1) = _ from mg_lays 0 hg60 (by omega) (-1), Option.bind_some, if_neg (by decide), if_neg (by decide), show (361 : Int32).toNatClampNeg = 360 + 1 from by decide, flat_6 (by omega), fl_up6 (by omega), hτ2]
  -- the end, from what 'fall' gives
  have fin : ∀ (τ3 m3 : Tau) (t' : Gt), sm A0 τ3 m3 → rep τ3 t' (-1) → τ3 6 0 = trt t' → wv t' → (tsl t').Perm (tsl h ++ csl C) → tks t' = tks (plug C h) → kp τ2 τ3 → fX7_remove_64 F τ (nI g) = (fX1_add F τ3 7 8).bind (fun q20 => some q20) → fX9_takes_61 F (flat τ) (nI g) = some (flat m3) →
      ∃ τ' t', fX7_remove_64 F τ (nI g) = some τ' ∧ fX9_takes_61 F (flat τ) (nI g) = some (flat τ') ∧ rep τ' t' (-1) ∧ τ' 6 0 = trt t' ∧ wv t' ∧ (tsl t').Perm (tsl h ++ csl C) ∧ tks t' = ckl C ++ tks h ++ ckr C ∧ τ' 0 = u2 τ 0 g (-1) 0 ∧ τ' 1 = τ 1 ∧ τ' 6 1 = τ 6 1 - 1 := by
    intro τ3 m3 t' a1 a2 a3 a4 a5 a6 a7 a8 a9
    obtain ⟨τ', b1, b2, b3⟩ := sm_end (F := F) a1
    refine ⟨τ', t', by rw [a8, b1, Option.bind_some], by rw [a9, b2], rep_row a2 (fun r hr => b3 r (by omega)), by rw [b3 6 (by omega)]; exact a3, a4, a5, by rw [a6, tks_plug], by rw [b3 0 (by omega), a7.1, k0], by rw [b3 1 (by omega), a7.2.1, k1], by rw [b3 6 (by omega), a7.2.2, k6]⟩
  have hCl := csl_len C
  cases hCc : C with
  | nil =>
    subst hCc
    obtain ⟨τ3, m3, t', a1, a2, a3, a4, a5, a6, a7, a8, a9⟩ := fall (F := F) [] h τ2 τ2 rg 0 F F hr2 hc2 hap2 hs2 hwh hwc hkh (fun f c' e => by cases e) (by simp) (by simp; omega) (by simp; omega)
    refine fin τ3 m3 t' a3 a4 a5 a6 a7 a8 a9 ?_ ?_
    · unfold fX7_remove_64
      rw [cg_parent hg60, hpg, Option.bind_some, hC1, Option.bind_some, if_pos (show cpar [] = -1 from rfl)]
      unfold fX7_remove_129 fX7_mendGap
      have a1' : fX7_mendGap_8 F F τ2 (trt h) (cpar []) 0 = some τ3 := a1
      dsimp only
      rw [a1', Option.bind_some]
    · rw [hM1, hM2, hM3, if_pos (show cpar [] = -1 from rfl)]
      unfold fX9_takes_218 fX9_falls
      rw [a2, Option.bind_some]
  | cons f C' =>
    obtain ⟨d, r, p, k, o⟩ := f
    subst hCc
    obtain ⟨hp60, hk, hrk, hhl, ho, hpp, hro, hcc⟩ := id hc2
    obtain ⟨w1, w2, w3, w4, w5⟩ := id hwc
    have hpC : (p :: (tsl o ++ csl C')).Nodup := hn3.2.1
    have hpn := (List.nodup_cons.mp hpC).1
    have po : p ∉ tsl o := fun e => hpn (by simp [e])
    have pC' : p ∉ csl C' := fun e => hpn (by simp [e])
    have ph : p ∉ tsl h := fun e => hn3.2.2 p e p (by simp [csl]) rfl
    have hleaf : (τ2 3 p = -1 ∧ τ2 4 p = -1) ↔ (h = .leaf ∧ o = .leaf) := by
      rw [← trt_m1 hr2, ← trt_m1 hro, ← hhl, ← ho]
      cases d
      · exact ⟨fun h => ⟨h.2, h.1⟩, fun h => ⟨h.2, h.1⟩⟩
      · exact Iff.rfl
    by_cases hz : h = .leaf ∧ o = .leaf
    · obtain ⟨e1, e2⟩ := hz
      subst e1; subst e2
      simp only [trk] at hkh w2
      have hr1 : r = 1 := by rcases w1 with w | w <;> rcases w2 with u | u <;> omega
      subst hr1
      have hs3 := sm_cnt (sm_add hs2 p (-1)) (show 1 < 3 by omega)
      generalize hT : u2 (u2 τ2 2 p (τ2 2 p + -1)) 8 1 (u2 τ2 2 p (τ2 2 p + -1) 8 1 + 1) = T at hs3
      have hP : rep τ2 (nd2 d 1 p k .leaf .leaf) (cpar C') := rep_nd2.mpr ⟨hp60, hk, hrk, hhl, ho, hpp, trivial, trivial⟩
      have hrT : rep T (nd2 d 0 p k .leaf .leaf) (cpar C') := by
        rw [← hT, show τ2 2 p + -1 = nI 0 by rw [hrk]; exact nI_less 0]
        have q1 := rep_row (τ' := u2 (u2 τ2 2 p (nI 0)) 8 1 (u2 τ2 2 p (nI 0) 8 1 + 1)) (rep_setR p 0 hP) (fun r hr => u2_row _ _ (by omega))
        simp only [setR_nd2, if_true] at q1
        exact q1
      have hcT : repc T C' (nI p) := by
        rw [← hT]
        exact repc_row (repc_u2 hcc pC') (fun r hr => u2_row _ _ (by omega))
      have hT5 : T 5 p = cpar C' := (rep_nd2.mp hrT).2.2.2.2.2.1
      have haT : apt (nd2 d 0 p k .leaf .leaf) C' := by
        refine apt_nd2.mpr ?_
        simpa [tsl] using hpC
      have hl2 : C'.length + 1 ≤ (csl ((d, 1, p, k, (.leaf : Gt)) :: C')).length := csl_len ((d, 1, p, k, (.leaf : Gt)) :: C')
      obtain ⟨τ3, m3, t', a1, a2, a3, a4, a5, a6, a7, a8, a9⟩ := fall (F := F) C' (nd2 d 0 p k .leaf .leaf) T _ (1 : Nat) 0 F F hrT (by rw [trt_nd2]; exact hcT) haT hs3 (wv_nd2.mpr ⟨Or.inl (by simp [trk]), Or.inl (by simp [trk]), fun _ _ => rfl, trivial, trivial⟩) w5 (by rw [trk_nd2]; omega) (fun f c' _ e => absurd e (nd2_ne _ _ _ _ _ _)) (by omega) (by omega) (by omega)
      rw [trt_nd2] at a1
      refine fin τ3 m3 t' a3 a4 a5 a6 ?_ ?_ ?_ ?_ ?_
      · refine a7.trans ?_
        refine ((tsl_nd2 d 0 p k .leaf .leaf).append_right _).trans ?_
        simp [tsl, csl]
      · rw [a8]
        show tks (plug C' (nd2 d 0 p k .leaf .leaf)) = tks (plug C' (nd2 d 1 p k .leaf .leaf))
        exact tks_plug_congr (tks_nd2_r _ _ _ _ _ _ _)
      · refine kp_tr ?_ a9
        rw [← hT]
        exact ⟨by rw [u2_row _ _ (by omega), u2_row _ _ (by omega)], by rw [u2_row _ _ (by omega), u2_row _ _ (by omega)], by rw [u2_row _ _ (by omega), u2_row _ _ (by omega)]⟩
      · unfold fX7_remove_64
        rw [cg_parent hg60, hpg, Option.bind_some, hC1, Option.bind_some]
        show (if nI p = -1 then _ else (fX4_isLeaf F τ2 (nI p)).bind _) = _
        rw [if_neg (nI_m1 p (by omega)), cg_leaf hp60, Option.bind_some, if_pos (hleaf.mpr ⟨rfl, rfl⟩), if_neg (by decide)]
        show (fX4_rankOf F τ2 (nI p)).bind _ = _
        rw [cg_rank hp60, hrk, Option.bind_some, if_pos (show nI 1 = 1 from rfl)]
        unfold fX7_demote
        show ((((fX4_addRank F τ2 (nI p) (-1)).bind _).bind _)) = _
        rw [cg_addRank hp60, Option.bind_some, Option.bind_some, hT]
        show (fX4_parentOf F T (nI p)).bind _ = _
        rw [cg_parent hp60, hT5, Option.bind_some]
        unfold fX7_remove_129 fX7_mendGap
        have a1' : fX7_mendGap_8 F F T (nI p) (cpar C') 0 = some τ3 := a1
        show (fX7_mendGap_8 F F T (nI p) (cpar C') 0).bind _ = _
        rw [a1', Option.bind_some]
      · rw [hM1, hM2, hM3]
        show (if nI p = -1 then _ else (fX9_hasNoChildren F (flat τ2) (nI p)).bind _) = _
        rw [if_neg (nI_m1 p (by omega)), mg_leaf hp60, Option.bind_some, if_pos (hleaf.mpr ⟨rfl, rfl⟩), if_neg (by decide)]
        show (fX9_of F (flat τ2) (nI p) 2).bind _ = _
        rw [mg_rk hp60, hrk, Option.bind_some, if_pos (show nI 1 = 1 from rfl)]
        show (fX9_ranks F (flat τ2) (nI p) (-1)).bind _ = _
        rw [mg_ranks hp60, Option.bind_some, mg_counts1, Option.bind_some]
        have hm5 : cntM (u2 τ2 2 p (τ2 2 p + -1)) 1 5 p = cpar C' := by rw [cntM_row _ _ (by omega), u2_row _ _ (by omega)]; exact hpp
        show (fX9_of F (flat (cntM (u2 τ2 2 p (τ2 2 p + -1)) 1)) (nI p) 5).bind _ = _
        rw [mg_parent hp60, hm5, Option.bind_some]
        have hend : fX9_takes_218 F (flat (cntM (u2 τ2 2 p (τ2 2 p + -1)) 1)) (cpar C') (b2i (cdir C')) = some (flat m3) := by
          unfold fX9_takes_218 fX9_falls
          rw [a2, Option.bind_some]
        cases hC' : C' with
        | nil =>
          rw [hC'] at hend
          rw [if_pos (show cpar [] = -1 from rfl)]
          exact hend
        | cons f2 C2 =>
          obtain ⟨d2, r2, g2, k2, o2⟩ := f2
          rw [hC'] at hend hcT pC'
          obtain ⟨f1, f2, f3, f4, f5, f6, f7, f8⟩ := sm_repc hs3 hcT
          have hgd : (cntM (u2 τ2 2 p (τ2 2 p + -1)) 1 3 g2 = nI p) ↔ d2 = true := left_is (x := 0) f4 f5 hp60 (rep_lt f7) (fun e => pC' (by simp [csl, e]))
          show (if nI g2 = -1 then _ else (fX9_isLeftOf F (flat _) (nI g2) (nI p)).bind _) = _
          rw [if_neg (nI_m1 g2 (by omega)), mg_isLeft f1, dec_b hgd, Option.bind_some]
          cases d2
          · rw [if_pos (show b2i false = 0 from rfl)]; exact hend
          · rw [if_neg (show ¬ b2i true = 0 by decide)]; exact hend
    · obtain ⟨τ3, m3, t', a1, a2, a3, a4, a5, a6, a7, a8, a9⟩ := fall (F := F) ((d, r, p, k, o) :: C') h τ2 τ2 rg 0 F F hr2 hc2 hap2 hs2 hwh hwc hkh (fun f c' e e1 e2 => by cases e; exact hz ⟨e1, e2⟩) (by omega) (by omega) (by omega)
      refine fin τ3 m3 t' a3 a4 a5 a6 a7 a8 a9 ?_ ?_
      · unfold fX7_remove_64
        rw [cg_parent hg60, hpg, Option.bind_some, hC1, Option.bind_some]
        show (if nI p = -1 then _ else (fX4_isLeaf F τ2 (nI p)).bind _) = _
        rw [if_neg (nI_m1 p (by omega)), cg_leaf hp60, Option.bind_some, if_neg (fun e => hz (hleaf.mp e)), if_pos rfl]
        unfold fX7_remove_129 fX7_mendGap
        have a1' : fX7_mendGap_8 F F τ2 (trt h) (cpar ((d, r, p, k, o) :: C')) 0 = some τ3 := a1
        dsimp only
        rw [a1', Option.bind_some]
      · rw [hM1, hM2, hM3]
        show (if nI p = -1 then _ else (fX9_hasNoChildren F (flat τ2) (nI p)).bind _) = _
        rw [if_neg (nI_m1 p (by omega)), mg_leaf hp60, Option.bind_some, if_neg (fun e => hz (hleaf.mp e)), if_pos rfl]
        unfold fX9_takes_218 fX9_falls
        rw [a2, Option.bind_some]
