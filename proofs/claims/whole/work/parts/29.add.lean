/-! ===== a key comes ===== -/
theorem u2_commk (τ : Tau) (c : Nat) {i j : Nat} (h : i ≠ j) (v w : Int32) : u2 (u2 τ c i v) c j w = u2 (u2 τ c j w) c i v := by
  funext a b
  simp only [u2_app]
  by_cases h1 : a = c ∧ b = j
  · have : ¬ (a = c ∧ b = i) := fun e => h (e.2.symm.trans h1.2)
    simp [h1, Ne.symm h]
  · simp [h1]
theorem hang_u61 (τ : Tau) (p x : Int32) (d : Bool) (v : Int32) : hangT (u2 τ 6 1 v) p d x = u2 (hangT τ p d x) 6 1 v := by
  have hcd := cc_le d
  unfold hangT
  by_cases hx : x = -1
  · by_cases hp : p = -1
    · simp only [hx, hp, if_true]
      rw [u2_commk _ _ (show (1 : Nat) ≠ 0 by omega)]
    · simp only [hx, hp, if_true, if_false]
      rw [u2_comm _ (show (6 : Nat) ≠ cc d by omega)]
  · by_cases hp : p = -1
    · simp only [hx, hp, if_true, if_false]
      rw [u2_comm _ (show (6 : Nat) ≠ 5 by omega), u2_commk _ _ (show (1 : Nat) ≠ 0 by omega)]
    · simp only [hx, hp, if_false]
      rw [u2_comm _ (show (6 : Nat) ≠ 5 by omega), u2_comm _ (show (6 : Nat) ≠ cc d by omega)]
/-- the new node, filled -/
def filT (τ : Tau) (s : Nat) (k w : Int32) : Tau := u2 (u2 (u2 (u2 (u2 τ 0 s k) 1 s w) 2 s 0) 3 s (-1)) 4 s (-1)
theorem cg_fill {F : Nat} {τ : Tau} {s : Nat} (h : s < 60) (k w : Int32) : fX4_fill F τ (nI s) k w = some (u2 (filT τ s k w) 6 1 (filT τ s k w 6 1 + 1)) := by
  unfold fX4_fill
  have h1 := nI_nin h (show 60 < 2 ^ 31 by omega)
  rw [if_neg (nI_pos (by omega)), if_neg (fun q => absurd (nI60 h) (Int32.not_lt.mpr q)), if_neg h1, if_neg h1, if_neg h1, if_neg h1, if_neg h1, nI_cl h]; rfl
theorem fil_app (τ : Tau) (s : Nat) (k w : Int32) (c q : Nat) : filT τ s k w c q = if q = s then (if c = 0 then k else if c = 1 then w else if c = 2 then 0 else if c = 3 then -1 else if c = 4 then -1 else τ c q) else τ c q := by
  unfold filT
  simp only [u2_app]
  by_cases hq : q = s
  · simp only [hq, and_true, if_true]
    by_cases h4 : c = 4
    · simp [h4]
    · by_cases h3 : c = 3
      · simp [h3]
      · by_cases h2 : c = 2
        · simp [h2]
        · by_cases h1 : c = 1
          · simp [h1]
          · simp [h1, h2, h3, h4]
  · simp [hq]
theorem fil_row (τ : Tau) (s : Nat) (k w : Int32) {c : Nat} (hc : 5 ≤ c) : filT τ s k w c = τ c := by
  unfold filT
  rw [u2_row _ _ (by omega), u2_row _ _ (by omega), u2_row _ _ (by omega), u2_row _ _ (by omega), u2_row _ _ (by omega)]
theorem fX1_add_ok (F : Nat) (τ : Tau) : ∃ τ', fX1_add F τ 7 8 = some τ' ∧ (∀ r, r ≠ 7 → τ' r = τ r) ∧ ∀ k, k < 3 → τ' 7 k = τ 7 k + τ 8 k := by
  refine ⟨_, rfl, fun r hr => ?_, fun k hk => ?_⟩
  · rw [u2_row _ _ hr, u2_row _ _ hr, u2_row _ _ hr]
  · rcases (show k = 0 ∨ k = 1 ∨ k = 2 by omega) with rfl | rfl | rfl <;> simp [u2_app]
/-- the end of a deed: all has what the latest had; both sides are one again -/
theorem sm_end {F : Nat} {A0 : Nat → Int32} {τ τm : Tau} (h : sm A0 τ τm) : ∃ τ', fX1_add F τ 7 8 = some τ' ∧ flat τm = flat τ' ∧ (∀ r, r ≠ 7 → τ' r = τ r) := by
  obtain ⟨τ', e1, e2, e3⟩ := fX1_add_ok F τ
  refine ⟨τ', e1, flat_ext (fun c k hv => ?_), e2⟩
  rcases hv with ⟨hc, hk⟩ | ⟨rfl, hk⟩ | ⟨rfl, hk⟩ | ⟨rfl, hk⟩
  · rw [h.1 c (by omega), e2 c (by omega)]
  · rw [h.1 6 (by omega), e2 6 (by omega)]
  · obtain ⟨g1, g2, g3⟩ := h.2 k hk
    rw [g2, e3 k hk, g3]
  · obtain ⟨g1, g2, g3⟩ := h.2 k hk
    rw [g1, e2 8 (by omega)]
theorem clear_sm (τ : Tau) : sm (τ 7) (u2 (u2 (u2 τ 8 0 0) 8 1 0) 8 2 0) (u2 (u2 (u2 τ 8 0 0) 8 1 0) 8 2 0) := by
  refine ⟨fun r _ => rfl, fun k hk => ⟨rfl, ?_, ?_⟩⟩
  · rw [u2_row _ _ (by omega), u2_row _ _ (by omega), u2_row _ _ (by omega)]
    rcases (show k = 0 ∨ k = 1 ∨ k = 2 by omega) with rfl | rfl | rfl <;> simp [u2_app]
  · rw [u2_row _ _ (by omega), u2_row _ _ (by omega), u2_row _ _ (by omega)]
theorem add_ok {F : Nat} (hF : 100 ≤ F) {τ : Tau} {t : Gt} {k w : Int32} (hI : Inv τ t) (hk : k ∉ tks t) (hk0 : 0 ≤ k ∧ k ≤ 99999) (hw0 : 0 ≤ w) (hlen : (tsl t).length < 60) :
    ∃ τ' t', fX7_add F τ k w = some τ' ∧ fX9_puts F (flat τ) k w = some (flat τ') ∧ Inv τ' t' ∧ ∃ l1 l2, tks t = l1 ++ l2 ∧ tks t' = l1 ++ k :: l2 := by
  obtain ⟨i1, i2, i3, i4, i5, i6, i7, i8, i9, i10⟩ := hI
  have hsm := clear_sm τ
  have hrow : ∀ r, r ≤ 7 → u2 (u2 (u2 τ 8 0 0) 8 1 0) 8 2 0 r = τ r := fun r hr => by rw [u2_row _ _ (by omega), u2_row _ _ (by omega), u2_row _ _ (by omega)]
  generalize hτ1 : u2 (u2 (u2 τ 8 0 0) 8 1 0) 8 2 0 = τ1 at hsm hrow
  have r1 : rep τ1 t (-1) := rep_row i1 (fun r hr => hrow r (by omega))
  -- where it belongs
  obtain ⟨c, d1, d2, d3, d4, d5⟩ := desc (F := F) (w := w) t [] F F r1 i5 hk (by simp [ckl]) (by simp [ckr]) (by simp; omega) (by omega) (by omega)
  have hpl : plug c .leaf = t := d1
  have hcr := (rep_plug (τ := τ1) c .leaf).mp ⟨by rw [hpl]; exact r1, by rw [hpl, hrow 6 (by omega)]; exact i2⟩
  have hcr2 : repc τ1 c (-1) := hcr.2
  have hcl : (csl c).length = (tsl t).length := by rw [← hpl, plug_len]; simp [tsl]
  have hcm : ∀ q, q ∈ csl c ↔ q ∈ tsl t := fun q => by rw [← hpl, (tsl_plug c .leaf).mem_iff]; simp [tsl]
  have hcn : (csl c).Nodup := by
    have := (tsl_plug c .leaf).nodup (by rw [hpl]; exact i3)
    simpa [tsl] using this
  -- a free slot
  obtain ⟨sf, sf1, sf2⟩ := free_ex hlen
  obtain ⟨s, s60, s0, s1, s2⟩ := free_find (F := F) (τ := τ1) 60 0 F F (by omega) ⟨sf, by omega, sf1, by rw [hrow 0 (by omega)]; exact i7 sf sf1 sf2⟩ (by omega) (by omega)
  have s2' : fX9_freeOne_2 F (flat τ) F (nI 0) = some (nI s) := by
    obtain ⟨s', a1, a2, a3, a4⟩ := free_find (F := F) (τ := τ) 60 0 F F (by omega) ⟨sf, by omega, sf1, i7 sf sf1 sf2⟩ (by omega) (by omega)
    have hss : fX4_freeSlot_2 F τ F (nI 0) = fX4_freeSlot_2 F τ1 F (nI 0) := by
      have h0 := hrow 0 (by omega)
      have : ∀ n x, fX4_freeSlot_2 F τ n x = fX4_freeSlot_2 F τ1 n x := by
        intro n
        induction n with
        | zero => intro x; rw [fX4_freeSlot_2, fX4_freeSlot_2]
        | succ n ih => intro x; rw [fX4_freeSlot_2, fX4_freeSlot_2, h0, ih]
      exact this F (nI 0)
    rw [a4, ← a3, hss, s1]
  have sn : s ∉ tsl t := fun e => by
    -- a slot of the tree has a key
    have hkey : ∀ {t : Gt} {p : Int32}, rep τ1 t p → s ∈ tsl t → ∃ q ∈ tks t, τ1 0 s = q := by
      intro t
      induction t with
      | leaf => intro p _ h; cases h
      | inner r z q a b iha ihb =>
        intro p h hm
        obtain ⟨h1, h2, h3, h4, h5, h6, h7, h8⟩ := h
        rcases List.mem_append.mp hm with hm | hm
        · obtain ⟨q', a1, a2⟩ := iha h7 hm
          exact ⟨q', by simp [tks, a1], a2⟩
        · rcases List.mem_cons.mp hm with rfl | hm
          · exact ⟨q, by simp [tks], h2⟩
          · obtain ⟨q', a1, a2⟩ := ihb h8 hm
            exact ⟨q', by simp [tks, a1], a2⟩
    obtain ⟨q, a1, a2⟩ := hkey r1 e
    rw [s0] at a2
    have := (i6 q a1).1
    rw [← a2] at this
    exact absurd this (by decide)
  have snc : s ∉ csl c := fun e => sn ((hcm s).mp e)
  -- the new node hangs there
  have slp := cpar_sl hcr2
  have hfa := fil_app τ1 s k w
  have hf6 : filT τ1 s k w 6 1 = τ 6 1 := by
    rw [fil_row _ _ _ _ (by omega), hrow 6 (by omega)]
  generalize hτ2 : hangT (u2 (filT τ1 s k w) 6 1 (filT τ1 s k w 6 1 + 1)) (cpar c) (cdir c) (nI s) = τ2
  have hτ2' : τ2 = u2 (hangT (filT τ1 s k w) (cpar c) (cdir c) (nI s)) 6 1 (τ 6 1 + 1) := by rw [← hτ2, hang_u61, hf6]
  have ncs : cpar c ≠ nI s := fun e => snc (cpar_mem hcr2 s60 e)
  have h5 := cc_le (cdir c)
  have eP : ∀ (r q : Nat), q < 60 → r < 6 → τ2 r q = if cpar c = nI q ∧ r = cc (cdir c) then nI s else if s = q ∧ r = 5 then cpar c else filT τ1 s k w r q := by
    intro r q hq hr
    rw [hτ2', u2_row _ _ (by omega), hang_app slp (sl_nI s60) _ hq hr]
    simp only [show (nI s = nI q) ↔ s = q from ⟨nI_inj s60 hq, fun e => by rw [e]⟩]
  have hnew : rep τ2 (nd 0 s k .leaf .leaf) (cpar c) := by
    refine ⟨s60, ?_, ?_, ?_, ?_, ?_, trivial, trivial⟩
    · rw [eP _ _ s60 (by omega), if_neg (fun e => ncs e.1), if_neg (by omega), hfa]; simp
    · rw [eP _ _ s60 (by omega), if_neg (fun e => ncs e.1), if_neg (by omega), hfa]; simp; rfl
    · rw [eP _ _ s60 (by omega), if_neg (fun e => ncs e.1), if_neg (by omega), hfa]; simp [trt]
    · rw [eP _ _ s60 (by omega), if_neg (fun e => ncs e.1), if_neg (by omega), hfa]; simp [trt]
    · rw [eP _ _ s60 (by omega), if_neg (fun e => ncs e.1), if_pos ⟨rfl, rfl⟩]
  have hkeep : ∀ q, q < 60 → q ≠ s → cpar c ≠ nI q → ∀ r, r < 6 → τ2 r q = τ1 r q := by
    intro q hq hne hcp r hr
    rw [eP r q hq hr, if_neg (fun e => hcp e.1), if_neg (fun e => hne e.1.symm), hfa, if_neg hne]
  have hctx : repc τ2 c (nI s) := by
    refine repc_re hcr2 hcn (fun e => ?_) (fun q hq e => ?_) (fun q hq hne => ?_)
    · subst e
      rw [hτ2', u2_ne _ _ (Or.inr (by omega)), hang_6, if_pos ⟨rfl, rfl⟩]
    · have hm := cpar_mem hcr2 hq e
      have hqs : q ≠ s := fun e => snc (e ▸ hm)
      have ks : ∀ r, r < 6 → r ≠ cc (cdir c) → τ2 r q = τ1 r q := fun r hr hne => by
        rw [eP r q hq hr, if_neg (fun z => hne z.2), if_neg (fun z => hqs z.1.symm), hfa, if_neg hqs]
      refine ⟨?_, ks _ (cc_lt _) (Ne.symm (cc_nn _)), ks 0 (by omega) (by omega), ks 2 (by omega) (by omega), ks 5 (by omega) (by omega), ?_⟩
      · rw [eP _ _ hq (cc_lt _), if_pos ⟨e, rfl⟩]
      · rw [hτ2', u2_ne _ _ (Or.inr (by omega)), hang_6, if_neg (fun z => nI_m1 q (by omega) (e.symm.trans z.1)), fil_row _ _ _ _ (by omega)]
    · have q60 := repc_lt hcr2 q hq
      have hk := hkeep q q60 (fun e => snc (e ▸ hq)) hne
      exact ⟨hk 0 (by omega), hk 2 (by omega), hk 3 (by omega), hk 4 (by omega), hk 5 (by omega)⟩
  have hap : apt (nd 0 s k .leaf .leaf) c := by
    show ([] ++ [s] ++ csl c).Nodup
    exact List.nodup_cons.mpr ⟨snc, hcn⟩
  have hwc : wc c (-1) := by
    have := (wv_plug c .leaf).mp (by rw [hpl]; exact i4)
    exact this.1
  have hsm2 : sm (τ 7) τ2 τ2 := by
    refine ⟨fun r _ => rfl, fun j hj => ?_⟩
    have e7 : τ2 7 j = τ1 7 j := by
      rw [hτ2', u2_row _ _ (by omega), hang_row _ _ _ _ (by omega), fil_row _ _ _ _ (by omega)]
    have e8 : τ2 8 j = τ1 8 j := by
      rw [hτ2', u2_row _ _ (by omega), hang_row _ _ _ _ (by omega), fil_row _ _ _ _ (by omega)]
    obtain ⟨g1, g2, g3⟩ := hsm.2 j hj
    refine ⟨rfl, ?_, ?_⟩
    · rw [e7, e8]; exact g2
    · rw [e7]; exact g3
  obtain ⟨τ3, m3, t', a1, a2, a3, a4, a5, a6, a7, a8, a9⟩ := rise (F := F) c (nd 0 s k .leaf .leaf) τ2 τ2 (-1) 0 F F hnew hctx hap hsm2 (by intro e; cases e)
    ⟨Or.inl (by simp [trk]), Or.inl (by simp [trk]), fun _ _ => rfl, trivial, trivial⟩ hwc (by simp [trk]) (Or.inl (by simp [trk])) (by have := csl_len c; omega) (by have := csl_len c; omega) (by have := csl_len c; omega)
  obtain ⟨τ', b1, b2, b3⟩ := sm_end (F := F) a3
  have hks : tks t' = ckl c ++ k :: ckr c := by
    rw [a8, tks_plug]
    simp [tks]
  have hkt : tks t = ckl c ++ ckr c := by
    rw [← hpl, tks_plug]
    simp [tks]
  have hmt : ∀ q, q ∈ tsl t' ↔ (q = s ∨ q ∈ tsl t) := fun q => by
    rw [a7.mem_iff]
    show q ∈ [] ++ [s] ++ csl c ↔ _
    simp only [List.nil_append, List.mem_append, List.mem_singleton, hcm]
  have hlt' : (tsl t').length = (tsl t).length + 1 := by
    rw [a7.length_eq, List.length_append, hcl]
    show 1 + (tsl t).length = _
    omega
  refine ⟨τ', t', ?_, ?_, ?_, ckl c, ckr c, hkt, hks⟩
  · unfold fX7_add
    have : fX1_clear F τ 8 = some τ1 := by rw [← hτ1]; rfl
    rw [this, Option.bind_some]
    unfold fX4_hangNew
    have hd2 : fX4_hangNew_14 F F τ1 k w (-1) 0 (τ1 6 0) 0 = fX4_hangNew_63 F τ1 k w (cpar c) (b2i (cdir c)) := by
      rw [hrow 6 (by omega), i2]
      exact d2
    rw [hd2]
    unfold fX4_hangNew_63 fX4_freeSlot
    have s1' : fX4_freeSlot_2 F τ1 F 0 = some (nI s) := s1
    rw [s1', Option.bind_some, cg_fill s60, Option.bind_some, cg_hang slp (sl_nI s60), Option.bind_some, Option.bind_some, hτ2]
    unfold fX7_mendUpwards
    dsimp only
    rw [cg_parent s60, hnew.2.2.2.2.2.1, Option.bind_some]
    have a1' : fX7_mendUpwards_14 F F τ2 (nI s) (cpar c) 0 = some τ3 := a1
    rw [a1', Option.bind_some, b1, Option.bind_some]
  · unfold fX9_puts fX9_freeOne
    have s2'' : fX9_freeOne_2 F (flat τ) F 0 = some (nI s) := s2'
    rw [s2'', Option.bind_some, mg_top, Option.bind_some, begins_ok (by omega), hτ1, Option.bind_some, i2]
    have := d3 (nI s)
    rw [show cpar [] = -1 from rfl] at this
    rw [this, fX9_puts_18, if_pos rfl]
    rw [show fX9_lays F (flat τ1) (nI s) (0 : Int32) k = _ from mg_lays 0 s60 (by omega) k, Option.bind_some, show fX9_lays F (flat _) (nI s) (1 : Int32) w = _ from mg_lays 1 s60 (by omega) w, Option.bind_some, show fX9_lays F (flat _) (nI s) (2 : Int32) 0 = _ from mg_lays 2 s60 (by omega) 0, Option.bind_some, show fX9_lays F (flat _) (nI s) (3 : Int32) (-1) = _ from mg_lays 3 s60 (by omega) (-1), Option.bind_some, show fX9_lays F (flat _) (nI s) (4 : Int32) (-1) = _ from mg_lays 4 s60 (by omega) (-1), Option.bind_some]
    have h115 : fX9_puts_115 F (flat (filT τ1 s k w)) (nI s) (cpar c) (b2i (cdir c)) = some (flat τ') := by
      unfold fX9_puts_115
      rw [mg_hangs slp (sl_nI s60), Option.bind_some, if_neg (by decide), if_neg (by decide), show (361 : Int32).toNatClampNeg = 360 + 1 from by decide, flat_6 (by omega), fl_up6 (by omega)]
      have e61 : hangT (filT τ1 s k w) (cpar c) (cdir c) (nI s) 6 1 = τ 6 1 := by
        rw [hang_6, if_neg (by omega), hf6]
      rw [e61, ← hτ2']
      unfold fX9_rises
      have a2' : fX9_rises_4 F F (flat τ2) (nI s) 1 = some (flat m3) := a2
      rw [a2', Option.bind_some, b2]
    show (if cpar c = -1 then fX9_puts_114 F (flat (filT τ1 s k w)) (nI s) (cpar c) else _) = _
    unfold fX9_puts_114
    cases hc : c with
    | nil =>
      rw [hc] at h115
      rw [if_pos (show cpar [] = -1 from rfl)]
      exact h115
    | cons f c2 =>
      obtain ⟨d, r, p, kq, o⟩ := f
      rw [hc] at h115 d4 d5 hcr2 snc
      obtain ⟨p60, pk, -⟩ := hcr2
      have hps : p ≠ s := fun e => snc (by simp [csl, e])
      rw [if_neg (show ¬ cpar ((d, r, p, kq, o) :: c2) = -1 from nI_m1 p (by omega))]
      have hkp : fX9_of F (flat (filT τ1 s k w)) (cpar ((d, r, p, kq, o) :: c2)) 0 = some kq := by
        show fX9_of F (flat (filT τ1 s k w)) (nI p) 0 = some kq
        rw [mg_key p60, hfa, if_neg hps, pk]
      rw [show u2 (u2 (u2 (u2 (u2 τ1 0 s k) 1 s w) 2 s 0) 3 s (-1)) 4 s (-1) = filT τ1 s k w from rfl, hkp, Option.bind_some]
      cases d
      · have : kq < k := d4 kq (by simp [ckl])
        rw [if_pos (Int32.le_of_lt this)]
        exact h115
      · have : k < kq := d5 kq (by simp [ckr])
        rw [if_neg (i32_not_le.mpr this)]
        exact h115
  · refine ⟨rep_row a4 (fun r hr => b3 r (by omega)), by rw [b3 6 (by omega)]; exact a5, a7.symm.nodup hap, a6, ?_, ?_, ?_, ?_, ?_, by omega⟩
    · rw [hks]
      rw [hkt] at i5
      obtain ⟨p1, p2, p3⟩ := pw_app i5
      refine List.pairwise_append.mpr ⟨p1, List.pairwise_cons.mpr ⟨d5, p2⟩, fun a ha b hb => ?_⟩
      rcases List.mem_cons.mp hb with rfl | hb
      · exact d4 a ha
      · exact p3 a ha b hb
    · intro q hq
      rw [hks] at hq
      rcases List.mem_append.mp hq with hq | hq
      · exact i6 q (by rw [hkt]; simp [hq])
      · rcases List.mem_cons.mp hq with rfl | hq
        · exact hk0
        · exact i6 q (by rw [hkt]; simp [hq])
    · intro q hq hn
      have hn' : q ≠ s ∧ q ∉ tsl t := ⟨fun e => hn ((hmt q).mpr (Or.inl e)), fun e => hn ((hmt q).mpr (Or.inr e))⟩
      have hcp : cpar c ≠ nI q := fun e => hn'.2 ((hcm q).mp (cpar_mem hcr2 hq e))
      rw [b3 0 (by omega), a9.1, hkeep q hq hn'.1 hcp 0 (by omega), hrow 0 (by omega)]
      exact i7 q hq hn'.2
    · intro q hq
      rw [b3 1 (by omega), a9.2.1, eP 1 q hq (by omega), if_neg (fun e => by omega), if_neg (fun e => by omega), hfa]
      by_cases e : q = s
      · simp [e]; exact hw0
      · simp only [if_neg e]; rw [hrow 1 (by omega)]; exact i8 q hq
    · rw [b3 6 (by omega), a9.2.2, hτ2', u2_at, i9, hlt', nI_1]
