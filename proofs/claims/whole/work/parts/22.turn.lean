/-! ===== one node turns over its parent ===== -/
theorem cc_nn (d : Bool) : cc d ≠ cc (!d) := by cases d <;> decide
theorem cc_lt (d : Bool) : cc d < 6 := by cases d <;> decide
def rotT (τ : Tau) (d : Bool) (p x : Nat) (B : Gt) (c : List Fr) : Tau := hangT (hangT (hangT τ (nI p) d (trt B)) (nI x) (!d) (nI p)) (cpar c) (cdir c) (nI x)
theorem rot_row (τ : Tau) (d : Bool) (p x : Nat) (B : Gt) (c : List Fr) {r : Nat} (hr : r < 3 ∨ 6 < r) : rotT τ d p x B c r = τ r := by
  unfold rotT
  rw [hang_row _ _ _ _ hr, hang_row _ _ _ _ hr, hang_row _ _ _ _ hr]
theorem rot_61 (τ : Tau) (d : Bool) (p x : Nat) (B : Gt) (c : List Fr) : rotT τ d p x B c 6 1 = τ 6 1 := by
  unfold rotT
  simp [hang_6]
theorem cpar_mem {τ : Tau} {c : List Fr} {x : Int32} (h : repc τ c x) {s : Nat} (hs : s < 60) (e : cpar c = nI s) : s ∈ csl c := by
  cases c with
  | nil => exact absurd e.symm (nI_m1 s (by omega))
  | cons f c =>
    obtain ⟨d, r, q, k, o⟩ := f
    have : q = s := nI_inj h.1 hs e
    subst this
    simp [csl]
/-- what a hole's place and its surroundings have apart -/
def apt (t : Gt) (c : List Fr) : Prop := (tsl t ++ csl c).Nodup
theorem apt_nd2 {d : Bool} {r s : Nat} {k : Int32} {a b : Gt} {c : List Fr} : apt (nd2 d r s k a b) c ↔ (s :: (tsl a ++ (tsl b ++ csl c))).Nodup := by
  unfold apt
  have := ((tsl_nd2 d r s k a b).append_right (csl c)).nodup_iff
  simpa only [List.cons_append, List.append_assoc] using this
theorem rot_ok {τ : Tau} {d : Bool} {rp p rx x : Nat} {kp kx : Int32} {A B C : Gt} {c : List Fr} (h : rep τ (nd2 d rp p kp (nd2 d rx x kx A B) C) (cpar c)) (hc : repc τ c (nI p)) (hn : apt (nd2 d rp p kp (nd2 d rx x kx A B) C) c) :
    rep (rotT τ d p x B c) (nd2 d rx x kx A (nd2 d rp p kp B C)) (cpar c) ∧ repc (rotT τ d p x B c) c (nI x) ∧ apt (nd2 d rx x kx A (nd2 d rp p kp B C)) c := by
  rw [apt_nd2] at hn
  have hperm : (p :: (tsl (nd2 d rx x kx A B) ++ (tsl C ++ csl c))).Perm (p :: x :: (tsl A ++ (tsl B ++ (tsl C ++ csl c)))) := by
    refine List.Perm.cons _ ?_
    have := (tsl_nd2 d rx x kx A B).append_right (tsl C ++ csl c)
    simpa only [List.cons_append, List.append_assoc] using this
  have hn2 := hperm.nodup hn
  obtain ⟨hp60, hk, hr, hl, ho, hpp, hX, hC⟩ := rep_nd2.mp h
  obtain ⟨hx60, hkx, hrx, hlx, hox, hpx, hA, hB⟩ := rep_nd2.mp hX
  rw [trt_nd2] at hl
  have hpx' : p ∉ x :: (tsl A ++ (tsl B ++ (tsl C ++ csl c))) := (List.nodup_cons.mp hn2).1
  have hn3 := (List.nodup_cons.mp hn2).2
  have hxx : x ∉ tsl A ++ (tsl B ++ (tsl C ++ csl c)) := (List.nodup_cons.mp hn3).1
  have hn4 := (List.nodup_cons.mp hn3).2
  have pnx : p ≠ x := fun e => hpx' (by rw [e]; exact List.mem_cons_self)
  have pA : p ∉ tsl A := fun e => hpx' (by simp [e])
  have pB : p ∉ tsl B := fun e => hpx' (by simp [e])
  have pC : p ∉ tsl C := fun e => hpx' (by simp [e])
  have pc : p ∉ csl c := fun e => hpx' (by simp [e])
  have xA : x ∉ tsl A := fun e => hxx (by simp [e])
  have xB : x ∉ tsl B := fun e => hxx (by simp [e])
  have xC : x ∉ tsl C := fun e => hxx (by simp [e])
  have xc : x ∉ csl c := fun e => hxx (by simp [e])
  have hAd := List.nodup_append.mp hn4
  have hBd := List.nodup_append.mp hAd.2.1
  have hCd := List.nodup_append.mp hBd.2.1
  have slB := trt_sl hB
  have slc := cpar_sl hc
  have eP : ∀ (r s : Nat), s < 60 → r < 6 → rotT τ d p x B c r s = if cpar c = nI s ∧ r = cc (cdir c) then nI x else if x = s ∧ r = 5 then cpar c else if x = s ∧ r = cc (!d) then nI p else if p = s ∧ r = 5 then nI x else if p = s ∧ r = cc d then trt B else if trt B = nI s ∧ r = 5 then nI p else τ r s := by
    intro r s hs hr
    unfold rotT
    rw [hang_app slc (sl_nI hx60) _ hs hr, hang_app (sl_nI hx60) (sl_nI hp60) _ hs hr, hang_app (sl_nI hp60) slB _ hs hr]
    simp only [show (nI x = nI s) ↔ x = s from ⟨nI_inj hx60 hs, fun e => by rw [e]⟩, show (nI p = nI s) ↔ p = s from ⟨nI_inj hp60 hs, fun e => by rw [e]⟩]
  have ncp : ¬ cpar c = nI p := fun e => pc (cpar_mem hc hp60 e)
  have ncx : ¬ cpar c = nI x := fun e => xc (cpar_mem hc hx60 e)
  have nBp : ¬ trt B = nI p := trt_ne hp60 (rep_lt hB) pB
  have nBx : ¬ trt B = nI x := trt_ne hx60 (rep_lt hB) xB
  have xnp : x ≠ p := Ne.symm pnx
  have ccd := cc_nn d
  have h5 : ∀ d, cc d ≠ 5 ∧ cc d ≠ 0 ∧ cc d ≠ 2 := fun d => by cases d <;> decide
  -- a subtree whose root isn't B's keeps all
  have keep : ∀ s, s < 60 → s ≠ p → s ≠ x → (cpar c ≠ nI s) → (trt B ≠ nI s) → ∀ r, r < 6 → rotT τ d p x B c r s = τ r s := by
    intro s hs h1 h2 h3 h4 r hr
    rw [eP r s hs hr]
    simp [h3, h4, Ne.symm h1, Ne.symm h2]
  have notc : ∀ {s : Nat}, s < 60 → s ∉ csl c → cpar c ≠ nI s := fun hs h e => h (cpar_mem hc hs e)
  have notB : ∀ {s : Nat}, s < 60 → s ∉ tsl B → trt B ≠ nI s := fun hs h => trt_ne hs (rep_lt hB) h
  refine ⟨rep_nd2.mpr ⟨hx60, ?_, ?_, ?_, ?_, ?_, ?_, ?_⟩, ?_, ?_⟩
  · rw [rot_row _ _ _ _ _ _ (by omega)]; exact hkx
  · rw [rot_row _ _ _ _ _ _ (by omega)]; exact hrx
  · rw [eP _ _ hx60 (cc_lt d)]
    simp [ncx, (h5 d).1, ccd, pnx, nBx, hlx]
  · rw [eP _ _ hx60 (cc_lt _)]
    simp [ncx, (h5 (!d)).1, trt_nd2]
  · rw [eP _ _ hx60 (by omega)]
    simp [ncx]
  · refine rep_same hA (fun s hs => ?_)
    have s60 := rep_lt hA s hs
    have hk := keep s s60 (fun e => pA (e ▸ hs)) (fun e => xA (e ▸ hs)) (notc s60 (fun e => hAd.2.2 s hs s (by simp [e]) rfl)) (notB s60 (fun e => hAd.2.2 s hs s (by simp [e]) rfl))
    exact ⟨hk 0 (by omega), hk 2 (by omega), hk 3 (by omega), hk 4 (by omega), hk 5 (by omega)⟩
  · refine rep_nd2.mpr ⟨hp60, ?_, ?_, ?_, ?_, ?_, ?_, ?_⟩
    · rw [rot_row _ _ _ _ _ _ (by omega)]; exact hk
    · rw [rot_row _ _ _ _ _ _ (by omega)]; exact hr
    · rw [eP _ _ hp60 (cc_lt d)]
      simp [ncp, (h5 d).1, xnp]
    · rw [eP _ _ hp60 (cc_lt _)]
      simp [ncp, (h5 (!d)).1, xnp, Ne.symm ccd, ho]
    · rw [eP _ _ hp60 (by omega)]
      simp [ncp, xnp]
    · refine rep_re hB hBd.1 (fun s hs => ?_) (fun s hs e => ?_)
      · have s60 := rep_lt hB s hs
        have h1 : p ≠ s := fun e => pB (e ▸ hs)
        have h2 : x ≠ s := fun e => xB (e ▸ hs)
        have h3 := notc s60 (fun e => hBd.2.2 s hs s (by simp [e]) rfl)
        have hk : ∀ r, r < 6 → r ≠ 5 → rotT τ d p x B c r s = τ r s := by
          intro r hr h5'
          rw [eP r s s60 hr]
          simp [h1, h2, h3, h5']
        refine ⟨hk 0 (by omega) (by omega), hk 2 (by omega) (by omega), hk 3 (by omega) (by omega), hk 4 (by omega) (by omega), fun hne => ?_⟩
        exact keep s s60 (Ne.symm h1) (Ne.symm h2) h3 (Ne.symm hne) 5 (by omega)
      · have hs' : s ∈ tsl B := trt_mem e hs (rep_lt hB)
        have h1 : p ≠ s := fun e => pB (e ▸ hs')
        have h2 : x ≠ s := fun e => xB (e ▸ hs')
        have h3 := notc hs (fun e => hBd.2.2 s hs' s (by simp [e]) rfl)
        rw [eP _ _ hs (by omega)]
        simp [h1, h2, h3, e]
    · refine rep_same hC (fun s hs => ?_)
      have s60 := rep_lt hC s hs
      have hk := keep s s60 (fun e => pC (e ▸ hs)) (fun e => xC (e ▸ hs)) (notc s60 (fun e => hCd.2.2 s hs s e rfl)) (notB s60 (fun e => hBd.2.2 s e s (by simp [hs]) rfl))
      exact ⟨hk 0 (by omega), hk 2 (by omega), hk 3 (by omega), hk 4 (by omega), hk 5 (by omega)⟩
  · refine repc_re hc hCd.2.1 (fun e => ?_) (fun s hs e => ?_) (fun s hs hne => ?_)
    · subst e
      unfold rotT
      simp [hang_6, cpar]
    · have hm := cpar_mem hc hs e
      have h1 : p ≠ s := fun e => pc (e ▸ hm)
      have h2 : x ≠ s := fun e => xc (e ▸ hm)
      have h3 : trt B ≠ nI s := notB hs (fun e => hBd.2.2 s e s (by simp [hm]) rfl)
      have q5 := h5 (cdir c)
      have qn := cc_nn (cdir c)
      refine ⟨?_, ?_, ?_, ?_, ?_, ?_⟩
      · rw [eP _ _ hs (cc_lt _)]
        simp [e]
      · rw [eP _ _ hs (cc_lt _)]
        simp [h1, h2, h3, Ne.symm qn]
      · rw [rot_row _ _ _ _ _ _ (by omega)]
      · rw [rot_row _ _ _ _ _ _ (by omega)]
      · rw [eP _ _ hs (by omega)]
        simp [h1, h2, h3, Ne.symm q5.1]
      · unfold rotT
        have hcm : cpar c ≠ -1 := by rw [e]; exact nI_m1 s (by omega)
        simp [hang_6, hcm, nI_m1 p (show p < 2 ^ 31 by omega), nI_m1 x (show x < 2 ^ 31 by omega)]
    · have s60 := repc_lt hc s hs
      have hk := keep s s60 (fun e => pc (e ▸ hs)) (fun e => xc (e ▸ hs)) hne (notB s60 (fun e => hBd.2.2 s e s (by simp [hs]) rfl))
      exact ⟨hk 0 (by omega), hk 2 (by omega), hk 3 (by omega), hk 4 (by omega), hk 5 (by omega)⟩
  · rw [apt_nd2]
    have : (x :: (tsl A ++ (tsl (nd2 d rp p kp B C) ++ csl c))).Perm (p :: x :: (tsl A ++ (tsl B ++ (tsl C ++ csl c)))) := by
      have h1 := (tsl_nd2 d rp p kp B C).append_right (csl c)
      have h2 := h1.append_left (tsl A)
      refine (List.Perm.cons x h2).trans ?_
      simp only [List.cons_append, List.append_assoc]
      refine (List.Perm.cons x List.perm_middle).trans ?_
      exact List.Perm.swap _ _ _
    exact this.symm.nodup hn2
/-- whether the left one is meant, by looking at it -/
theorem left_is {τ : Tau} {d : Bool} {s q : Nat} {x : Int32} {o : Gt} (h1 : τ (cc d) s = nI q) (h2 : τ (cc (!d)) s = trt o) (hq : q < 60) (ho : ∀ z ∈ tsl o, z < 60) (hn : q ∉ tsl o) : (τ 3 s = nI q) ↔ d = true := by
  cases d
  · have : τ 3 s = trt o := h2
    rw [this]
    exact ⟨fun e => absurd e (trt_ne hq ho hn), fun e => by cases e⟩
  · exact ⟨fun _ => rfl, fun _ => h1⟩
theorem b2i_dec {P : Prop} [Decidable P] {d : Bool} (h : P ↔ d = true) : (if P then some (1 : Int32) else some 0) = some (b2i d) := by
  cases d
  · rw [if_neg (fun p => by cases h.mp p)]; rfl
  · rw [if_pos (h.mpr rfl)]; rfl
theorem dec_b {P : Prop} [Decidable P] {d : Bool} (h : P ↔ d = true) : decide P = d := by
  cases d
  · exact decide_eq_false (fun p => by cases h.mp p)
  · exact decide_eq_true (h.mpr rfl)
theorem c_turn {F : Nat} {τ : Tau} {d : Bool} {rp p rx x : Nat} {kp kx : Int32} {A B C : Gt} {c : List Fr} (h : rep τ (nd2 d rp p kp (nd2 d rx x kx A B) C) (cpar c)) (hc : repc τ c (nI p)) (hn : apt (nd2 d rp p kp (nd2 d rx x kx A B) C) c) :
    fX4_turnOverParent F τ (nI x) = some (rotT τ d p x B c) ∧ fX9_turns F (flat τ) (nI x) = some (flat (cntM (rotT τ d p x B c) 2)) := by
  rw [apt_nd2] at hn
  obtain ⟨hp60, hk, hr, hl, ho, hpp, hX, hC⟩ := rep_nd2.mp h
  obtain ⟨hx60, hkx, hrx, hlx, hox, hpx, hA, hB⟩ := rep_nd2.mp hX
  rw [trt_nd2] at hl
  have hnp := (List.nodup_cons.mp hn).1
  have hn1 := List.nodup_append.mp (List.nodup_cons.mp hn).2
  have hxm : x ∈ tsl (nd2 d rx x kx A B) := (tsl_nd2 d rx x kx A B).mem_iff.mpr List.mem_cons_self
  have xC : x ∉ tsl C := fun e => hn1.2.2 x hxm x (by simp [e]) rfl
  have pcs : p ∉ csl c := fun e => hnp (by simp [e])
  have dl : (τ 3 p = nI x) ↔ d = true := left_is (x := 0) hl ho hx60 (rep_lt hC) xC
  have slB := trt_sl hB
  have slc := cpar_sl hc
  have hg : ∃ wl, fX4_leftOf F τ (cpar c) = some wl ∧ ((wl = nI p) ↔ cdir c = true) := by
    cases c with
    | nil => exact ⟨-1, rfl, ⟨fun e => absurd e.symm (nI_m1 p (by omega)), fun e => by cases e⟩⟩
    | cons f c =>
      obtain ⟨d2, r2, g, k2, o⟩ := f
      obtain ⟨e1, e2, e3, e4, e5, e6, e7, e8⟩ := hc
      refine ⟨τ 3 g, cg_left e1, left_is (x := 0) e4 e5 hp60 (rep_lt e7) (fun e => pcs (by simp [csl, e]))⟩
  constructor
  · obtain ⟨wl, hw1, hw2⟩ := hg
    unfold fX4_turnOverParent
    rw [cg_parent hx60, hpx]
    show (if nI p = -1 then _ else _) = _
    rw [if_neg (nI_m1 p (by omega)), cg_parent hp60, hpp]
    show (fX4_leftOf F τ (cpar c)).bind _ = _
    rw [hw1]
    have h32 : ∀ gd : Bool, fX4_turnOverParent_32 F τ (nI x) (nI p) (cpar c) (b2i gd) = some (hangT (hangT (hangT τ (nI p) d (trt B)) (nI x) (!d) (nI p)) (cpar c) gd (nI x)) := by
      intro gd
      unfold fX4_turnOverParent_32
      rw [cg_left hp60]
      have h48 : fX4_turnOverParent_48 F τ (nI x) (nI p) (cpar c) (b2i gd) (b2i d) = some (hangT (hangT (hangT τ (nI p) d (trt B)) (nI x) (!d) (nI p)) (cpar c) gd (nI x)) := by
        unfold fX4_turnOverParent_48
        have h66 : fX4_turnOverParent_66 F τ (nI x) (nI p) (cpar c) (b2i gd) (b2i d) (nI p) (b2i d) (nI x) (b2i (!d)) = some (hangT (hangT (hangT τ (nI p) d (trt B)) (nI x) (!d) (nI p)) (cpar c) gd (nI x)) := by
          unfold fX4_turnOverParent_66
          rw [cg_child hx60, hox]
          show (fX4_hang F τ (nI p) (b2i d) (trt B)).bind _ = _
          rw [cg_hang (sl_nI hp60) slB]
          have h84 : fX4_turnOverParent_84 F (hangT τ (nI p) d (trt B)) (nI x) (nI p) (cpar c) (b2i gd) (nI x) (b2i (!d)) = some (hangT (hangT (hangT τ (nI p) d (trt B)) (nI x) (!d) (nI p)) (cpar c) gd (nI x)) := by
            unfold fX4_turnOverParent_84
            rw [cg_hang (sl_nI hx60) (sl_nI hp60)]
            show (fX4_hang F _ (cpar c) (b2i gd) (nI x)).bind _ = _
            rw [cg_hang slc (sl_nI hx60)]; rfl
          cases d
          · exact h84
          · exact h84
        cases d
        · exact h66
        · exact h66
      show (if τ 3 p = nI x then _ else _) = _
      cases d
      · rw [if_neg (fun e => by cases dl.mp e)]; exact h48
      · rw [if_pos (dl.mpr rfl)]; exact h48
    show (if wl = nI p then _ else _) = _
    unfold rotT
    cases hcd : cdir c
    · rw [if_neg (fun e => by rw [hw2.mp e] at hcd; cases hcd)]; exact h32 false
    · rw [if_pos (hw2.mpr hcd)]; exact h32 true
  · unfold fX9_turns
    rw [mg_parent hx60, hpx]
    show (fX9_of F (flat τ) (nI p) 5).bind _ = _
    rw [mg_parent hp60, hpp]
    show (fX9_isLeftOf F (flat τ) (nI p) (nI x)).bind _ = _
    rw [mg_isLeft hp60, dec_b dl]
    have h41 : ∀ gd : Bool, fX9_turns_41 F (flat τ) (nI x) (nI p) (cpar c) (b2i d) (b2i gd) = some (flat (cntM (hangT (hangT (hangT τ (nI p) d (trt B)) (nI x) (!d) (nI p)) (cpar c) gd (nI x)) 2)) := by
      intro gd
      unfold fX9_turns_41
      have h55 : fX9_turns_55 F (flat τ) (nI x) (nI p) (cpar c) (b2i d) (b2i gd) (nI x) (b2i (!d)) = some (flat (cntM (hangT (hangT (hangT τ (nI p) d (trt B)) (nI x) (!d) (nI p)) (cpar c) gd (nI x)) 2)) := by
        unfold fX9_turns_55
        rw [mg_child hx60, hox]
        show (fX9_hangs F (flat τ) (nI p) (b2i d) (trt B)).bind _ = _
        rw [mg_hangs (sl_nI hp60) slB]
        have h81 : fX9_turns_81 F (flat (hangT τ (nI p) d (trt B))) (nI x) (nI p) (cpar c) (b2i gd) (nI x) (b2i (!d)) = some (flat (cntM (hangT (hangT (hangT τ (nI p) d (trt B)) (nI x) (!d) (nI p)) (cpar c) gd (nI x)) 2)) := by
          unfold fX9_turns_81
          rw [mg_hangs (sl_nI hx60) (sl_nI hp60)]
          show (fX9_hangs F (flat _) (cpar c) (b2i gd) (nI x)).bind _ = _
          rw [mg_hangs slc (sl_nI hx60)]
          show (fX9_counts F (flat _) (nI 2)).bind _ = _
          rw [mg_counts (by omega)]; rfl
        cases d
        · exact h81
        · exact h81
      cases d
      · exact h55
      · exact h55
    show (if cpar c = -1 then _ else _) = _
    unfold rotT
    cases c with
    | nil => exact h41 false
    | cons f c =>
      obtain ⟨d2, r2, g, k2, o⟩ := f
      obtain ⟨e1, e2, e3, e4, e5, e6, e7, e8⟩ := hc
      have hgd : (τ 3 g = nI p) ↔ d2 = true := left_is (x := 0) e4 e5 hp60 (rep_lt e7) (fun e => pcs (by simp [csl, e]))
      show (if nI g = -1 then _ else _) = _
      rw [if_neg (nI_m1 g (by omega))]
      show (fX9_isLeftOf F (flat τ) (nI g) (nI p)).bind _ = _
      rw [mg_isLeft e1, dec_b hgd]
      cases d2
      · exact h41 false
      · exact h41 true
