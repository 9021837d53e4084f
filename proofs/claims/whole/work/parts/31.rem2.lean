/-! ===== a key goes, from the invariant; finding a key ===== -/
theorem key_mem {τ : Tau} : ∀ {t : Gt} {p : Int32} {s : Nat}, rep τ t p → s ∈ tsl t → τ 0 s ∈ tks t
  | .leaf, _, _, _, h => by cases h
  | .inner r q k a b, p, s, hr, h => by
    obtain ⟨h1, h2, h3, h4, h5, h6, h7, h8⟩ := hr
    rcases List.mem_append.mp h with h | h
    · have := key_mem h7 h
      simp [tks, this]
    · rcases List.mem_cons.mp h with rfl | h
      · simp [tks, h2]
      · have := key_mem h8 h
        simp [tks, this]
theorem mem_key {τ : Tau} : ∀ {t : Gt} {p : Int32} {k : Int32}, rep τ t p → k ∈ tks t → ∃ s ∈ tsl t, τ 0 s = k
  | .leaf, _, _, _, h => by cases h
  | .inner r q k0 a b, p, k, hr, h => by
    obtain ⟨h1, h2, h3, h4, h5, h6, h7, h8⟩ := hr
    rcases List.mem_append.mp h with h | h
    · obtain ⟨s, e1, e2⟩ := mem_key h7 h
      exact ⟨s, by simp [tsl, e1], e2⟩
    · rcases List.mem_cons.mp h with rfl | h
      · exact ⟨q, by simp [tsl], h2⟩
      · obtain ⟨s, e1, e2⟩ := mem_key h8 h
        exact ⟨s, by simp [tsl, e1], e2⟩
theorem tsl_nd (r s : Nat) (k : Int32) (a b : Gt) : tsl (nd r s k a b) = tsl a ++ s :: tsl b := rfl
theorem rem_ok {F : Nat} (hF : 100 ≤ F) {τ : Tau} {t : Gt} {s : Nat} (hI : Inv τ t) (hst : s ∈ tsl t) :
    ∃ τ' t', fX7_remove F τ (nI s) = some τ' ∧ fX9_takes F (flat τ) (nI s) = some (flat τ') ∧ Inv τ' t' ∧ ∃ l1 l2, tks t = l1 ++ τ 0 s :: l2 ∧ tks t' = l1 ++ l2 := by
  obtain ⟨i1, i2, i3, i4, i5, i6, i7, i8, i9, i10⟩ := hI
  have s60 := rep_lt i1 s hst
  have hsm := clear_sm τ
  have hrow : ∀ r, r ≤ 7 → u2 (u2 (u2 τ 8 0 0) 8 1 0) 8 2 0 r = τ r := fun r hr => by rw [u2_row _ _ (by omega), u2_row _ _ (by omega), u2_row _ _ (by omega)]
  generalize hτ1 : u2 (u2 (u2 τ 8 0 0) 8 1 0) 8 2 0 = τ1 at hsm hrow
  have r1 : rep τ1 t (-1) := rep_row i1 (fun r hr => hrow r (by omega))
  have t1 : τ1 6 0 = trt t := by rw [hrow 6 (by omega)]; exact i2
  obtain ⟨c, r, k, a, b, et⟩ := locate hst
  obtain ⟨n1, n2⟩ := (rep_plug (τ := τ1) c (nd r s k a b)).mp ⟨by rw [← et]; exact r1, by rw [← et]; exact t1⟩
  obtain ⟨-, hk, hr, hl, ho, hp, ha, hb⟩ := id n1
  have hperm := tsl_plug c (nd r s k a b)
  rw [← et] at hperm
  have hap : apt (nd r s k a b) c := hperm.nodup i3
  obtain ⟨wc1, wv1⟩ := (wv_plug c (nd r s k a b)).mp (by rw [← et]; exact i4)
  have hkeys : tks t = ckl c ++ (tks a ++ k :: tks b) ++ ckr c := by rw [et, tks_plug]; rfl
  have hk0 : τ 0 s = k := by rw [← hrow 0 (by omega)]; exact hk
  have hplen := hperm.length_eq
  rw [List.length_append, tsl_nd] at hplen
  simp only [List.length_append, List.length_cons] at hplen
  have hcl : fX1_clear F τ 8 = some τ1 := by rw [← hτ1]; rfl
  have fin : ∀ (τ2 τ' : Tau) (t' h : Gt) (C : List Fr) (g : Nat) (l1 l2 : List Int32), fX7_remove F τ (nI s) = some τ' → fX9_takes F (flat τ) (nI s) = some (flat τ') → rep τ' t' (-1) → τ' 6 0 = trt t' → wv t' → (tsl t').Perm (tsl h ++ csl C) → (tsl t).Perm (g :: (tsl h ++ csl C)) → tks t = l1 ++ k :: l2 → tks t' = l1 ++ l2 → (∀ q, q < 60 → q ≠ g → q ∉ tsl t → τ' 0 q = τ 0 q) → τ' 0 g = -1 → (∀ q, q < 60 → 0 ≤ τ' 1 q) → τ' 6 1 = τ 6 1 - 1 →
      ∃ τ' t', fX7_remove F τ (nI s) = some τ' ∧ fX9_takes F (flat τ) (nI s) = some (flat τ') ∧ Inv τ' t' ∧ ∃ l1 l2, tks t = l1 ++ τ 0 s :: l2 ∧ tks t' = l1 ++ l2 := by
    intro τ2 τ' t' h C g l1 l2 a1 a2 a3 a4 a5 a6 a7 a8 a9 a10 a11 a12 a13
    have hnd := a7.nodup i3
    have hlen : (tsl t).length = (tsl t').length + 1 := by rw [a7.length_eq, a6.length_eq]; rfl
    refine ⟨τ', t', a1, a2, ⟨a3, a4, a6.symm.nodup (List.nodup_cons.mp hnd).2, a5, ?_, ?_, ?_, a12, ?_, by omega⟩, l1, l2, by rw [hk0]; exact a8, a9⟩
    · rw [a9]
      rw [a8] at i5
      exact i5.sublist (List.Sublist.append_left (List.sublist_cons_self _ _) _)
    · intro q hq
      rw [a9] at hq
      exact i6 q (by rw [a8]; rcases List.mem_append.mp hq with hq | hq <;> simp [hq])
    · intro q hq hn
      by_cases e : q = g
      · rw [e]; exact a11
      · have : q ∉ tsl t := fun z => hn (a6.mem_iff.mpr (by rcases List.mem_cons.mp (a7.mem_iff.mp z) with z | z; exact absurd z e; exact z))
        rw [a10 q hq e this]
        exact i7 q hq this
    · rw [a13, i9, hlen, ← nI_1, Int32.add_sub_cancel]
  by_cases h2 : a ≠ .leaf ∧ b ≠ .leaf
  · -- two children: the least on the right gives its key
    obtain ⟨hal, hbl⟩ := h2
    obtain ⟨cb, r', g, kg, bb, eb, ecb, l1, l2⟩ := least_ok (F := F) b (nI s) 0 F F hb hbl (by omega) (by omega) (by omega)
    have hg60 : g < 60 := rep_lt hb g (by rw [eb, (tsl_plug cb _).mem_iff]; simp [tsl])
    have eC : plug (cb ++ (false, r, s, k, a) :: c) (nd r' g kg .leaf bb) = t := by
      rw [plug_app, ← eb, et]; rfl
    obtain ⟨m1, m2⟩ := (rep_plug (τ := τ1) (cb ++ (false, r, s, k, a) :: c) (nd r' g kg .leaf bb)).mp ⟨by rw [eC]; exact r1, by rw [eC]; exact t1⟩
    have hkg : τ1 0 g = kg := m1.2.1
    have hpg := tsl_plug (cb ++ (false, r, s, k, a) :: c) (nd r' g kg .leaf bb)
    rw [eC] at hpg
    have hndg := hpg.nodup i3
    have hgs : g ≠ s := fun e => by
      have h1 := List.nodup_append.mp hndg
      exact h1.2.2 g (by simp [tsl]) s (by rw [csl_app]; simp [csl]) e
    obtain ⟨wcC, wvC⟩ := (wv_plug (cb ++ (false, r, s, k, a) :: c) (nd r' g kg .leaf bb)).mp (by rw [eC]; exact i4)
    -- its key and worth in s
    have hsn : s ∉ csl c := fun e => (List.nodup_append.mp hap).2.2 s (by simp [tsl]) s e rfl
    have hnab := (List.nodup_append.mp hap).1
    have sa : s ∉ tsl a := fun e => (List.nodup_append.mp hnab).2.2 s e s (by simp) rfl
    have sb : s ∉ tsl b := fun e => (List.nodup_cons.mp (List.nodup_append.mp hnab).2.1).1 e
    generalize hτ2 : u2 (u2 τ1 0 s (τ1 0 g)) 1 s (u2 τ1 0 s (τ1 0 g) 1 g) = τ2
    have e1g : u2 τ1 0 s (τ1 0 g) 1 g = τ 1 g := by rw [u2_row _ _ (by omega), hrow 1 (by omega)]
    have t2row : ∀ q, q ≠ 0 → q ≠ 1 → τ2 q = τ1 q := fun q h0 h1 => by rw [← hτ2, u2_row _ _ h1, u2_row _ _ h0]
    have hrepK : rep τ2 (plug c (nd r s kg a b)) (-1) := by
      have h1 := rep_setK s kg r1
      rw [et, setK_plug s kg c _ hsn] at h1
      have h2 : setK s kg (nd r s k a b) = nd r s kg a b := by
        show Std.DTreeMap.Internal.Impl.inner r s (if s = s then kg else k) (setK s kg a) (setK s kg b) = _
        rw [if_pos rfl, setK_no s kg sa, setK_no s kg sb]
      rw [h2] at h1
      refine rep_same h1 (fun q _ => ?_)
      rw [← hτ2, hkg]
      exact ⟨u2_ne _ _ (Or.inl (by omega)), u2_ne _ _ (Or.inl (by omega)), u2_ne _ _ (Or.inl (by omega)), u2_ne _ _ (Or.inl (by omega)), u2_ne _ _ (Or.inl (by omega))⟩
    have htrt : trt (plug c (nd r s kg a b)) = trt (plug c (nd r s k a b)) := by
      cases c with
      | nil => rfl
      | cons f c' =>
        have : ∀ (c : List Fr) (x y : Gt), trt x = trt y → trt (plug c x) = trt (plug c y) := by
          intro c
          induction c with
          | nil => intro x y h; exact h
          | cons f c ih => intro x y h; obtain ⟨d, r, s, k, o⟩ := f; exact ih _ _ (by rw [trt_nd2, trt_nd2])
        exact this (f :: c') _ _ rfl
    have eC2 : plug (cb ++ (false, r, s, kg, a) :: c) (nd r' g kg .leaf bb) = plug c (nd r s kg a b) := by
      rw [plug_app, ← eb]; rfl
    obtain ⟨q1, q2⟩ := (rep_plug (τ := τ2) (cb ++ (false, r, s, kg, a) :: c) (nd r' g kg .leaf bb)).mp ⟨by rw [eC2]; exact hrepK, by rw [eC2, t2row 6 (by omega) (by omega), t1, htrt, ← et]⟩
    have hsm2 : sm (τ 7) τ2 τ2 := by
      refine ⟨fun _ _ => rfl, fun j hj => ?_⟩
      rw [t2row 7 (by omega) (by omega), t2row 8 (by omega) (by omega)]
      exact hsm.2 j hj
    have hapC : apt (nd r' g kg .leaf bb) (cb ++ (false, r, s, kg, a) :: c) := by
      unfold apt
      rw [csl_key false r s kg k]
      exact hndg
    have hpg' : (tsl t).Perm (g :: (tsl bb ++ csl (cb ++ (false, r, s, kg, a) :: c))) := by
      rw [csl_key false r s kg k]
      exact hpg
    have hlenC : (csl (cb ++ (false, r, s, kg, a) :: c)).length < 60 := by
      have := hpg'.length_eq
      simp only [List.length_cons, List.length_append] at this
      omega
    obtain ⟨τ', t', a1, a2, a3, a4, a5, a6, a7, a8, a9, a10⟩ := rm_core (F := F) hF q1 q2 hapC wvC (wc_key false r s k kg a c cb r' wcC) hsm2 (Or.inl ⟨rfl, rfl⟩) hlenC
    refine fin τ2 τ' t' bb (cb ++ (false, r, s, kg, a) :: c) g (ckl c ++ tks a) (tks b ++ ckr c) ?_ ?_ a3 a4 a5 a6 hpg' (by rw [hkeys]; simp) ?_ ?_ ?_ ?_ ?_
    · unfold fX7_remove
      rw [if_neg (nI_m1 s (by omega)), hcl, Option.bind_some, cg_left s60, hl, Option.bind_some, if_neg (fun e => hal ((trt_m1 ha).mp e)), cg_right s60, ho, Option.bind_some, if_neg (fun e => hbl ((trt_m1 hb).mp e)), Option.bind_some]
      unfold fX4_leastBelow fX4_endOf
      have l1' : fX4_endOf_5 F τ1 F 1 (trt b) 0 = some (nI g) := l1
      rw [l1', Option.bind_some, Option.bind_some]
      unfold fX4_copyKeyAndWorth
      have n1 := nI_nin s60 (show 60 < 2 ^ 31 by omega)
      have n2 := nI_nin hg60 (show 60 < 2 ^ 31 by omega)
      rw [if_neg (nI_pos (by omega)), if_neg (n60le hg60), if_neg (nI_pos (by omega)), if_neg (n60le s60), if_neg n2, if_neg n1, if_neg n2, if_neg n1, nI_cl s60, nI_cl hg60, Option.bind_some, hτ2]
      exact a1
    · unfold fX9_takes
      rw [begins_ok (by omega), hτ1, Option.bind_some, mg_left s60, hl, Option.bind_some, if_neg (fun e => hal ((trt_m1 ha).mp e)), mg_right s60, ho, Option.bind_some, if_neg (fun e => hbl ((trt_m1 hb).mp e)), Option.bind_some]
      unfold fX9_leastBelow
      rw [l2, Option.bind_some, mg_key hg60, Option.bind_some, show fX9_lays F (flat τ1) (nI s) (0 : Int32) (τ1 0 g) = _ from mg_lays 0 s60 (by omega) _, Option.bind_some, mg_worth hg60, Option.bind_some, show fX9_lays F (flat (u2 τ1 0 s (τ1 0 g))) (nI s) (1 : Int32) (u2 τ1 0 s (τ1 0 g) 1 g) = _ from mg_lays 1 s60 (by omega) _, Option.bind_some, hτ2]
      exact a2
    · rw [a7, ckl_app, ckr_app, ecb, eb, tks_plug, ecb]
      simp [ckl, ckr, tks]
    · intro q hq hqg hqn
      have hqs : q ≠ s := fun e => hqn (e ▸ hst)
      rw [a8, u2_ne _ _ (Or.inr hqg), ← hτ2, u2_row _ _ (by omega), u2_ne _ _ (Or.inr hqs), hrow 0 (by omega)]
    · rw [a8, u2_at]
    · intro q hq
      rw [a9, ← hτ2, u2_app]
      by_cases e : q = s
      · rw [if_pos ⟨rfl, e⟩, e1g]; exact i8 g hg60
      · rw [if_neg (fun z => e z.2), u2_row _ _ (by omega), hrow 1 (by omega)]; exact i8 q hq
    · rw [a10, t2row 6 (by omega) (by omega), hrow 6 (by omega)]
  · -- one child at most: s itself goes
    obtain ⟨h, hh⟩ : ∃ h, a = .leaf ∧ h = b ∨ a ≠ .leaf ∧ b = .leaf ∧ h = a := by
      by_cases e : a = .leaf
      · exact ⟨b, Or.inl ⟨e, rfl⟩⟩
      · refine ⟨a, Or.inr ⟨e, ?_, rfl⟩⟩
        apply Classical.byContradiction
        intro e2
        exact h2 ⟨e, e2⟩
    have hsm1 : sm (τ 7) τ1 τ1 := hsm
    have hpt : (tsl t).Perm (s :: (tsl h ++ csl c)) := by
      refine hperm.trans ?_
      rw [tsl_nd]
      rcases hh with ⟨e1, e2⟩ | ⟨-, e1, e2⟩
      · subst e1; subst e2; exact List.Perm.refl _
      · subst e1; subst e2
        simp only [tsl, List.append_assoc, List.cons_append, List.nil_append]
        exact List.perm_middle
    have hlenc : (csl c).length < 60 := by omega
    obtain ⟨τ', t', a1, a2, a3, a4, a5, a6, a7, a8, a9, a10⟩ := rm_core (F := F) hF n1 n2 hap wv1 wc1 hsm1 hh hlenc
    have htab : tks a ++ tks b = tks h := by
      rcases hh with ⟨e1, e2⟩ | ⟨-, e1, e2⟩
      · subst e1; subst e2; rfl
      · subst e1; subst e2; simp [tks]
    refine fin τ1 τ' t' h c s (ckl c ++ tks a) (tks b ++ ckr c) ?_ ?_ a3 a4 a5 a6 hpt (by rw [hkeys]; simp) ?_ ?_ ?_ ?_ ?_
    · unfold fX7_remove
      rw [if_neg (nI_m1 s (by omega)), hcl, Option.bind_some, cg_left s60, hl, Option.bind_some, cg_right s60, ho]
      by_cases e : a = .leaf
      · rw [if_pos (by rw [e]; rfl)]; exact a1
      · have e2 : b = .leaf := by
          apply Classical.byContradiction
          intro e2
          exact h2 ⟨e, e2⟩
        rw [if_neg (fun z => e ((trt_m1 ha).mp z)), Option.bind_some, if_pos (by rw [e2]; rfl)]; exact a1
    · unfold fX9_takes
      rw [begins_ok (by omega), hτ1, Option.bind_some, mg_left s60, hl, Option.bind_some, mg_right s60, ho]
      by_cases e : a = .leaf
      · rw [if_pos (by rw [e]; rfl)]; exact a2
      · have e2 : b = .leaf := by
          apply Classical.byContradiction
          intro e2
          exact h2 ⟨e, e2⟩
        rw [if_neg (fun z => e ((trt_m1 ha).mp z)), Option.bind_some, if_pos (by rw [e2]; rfl)]; exact a2
    · rw [a7, ← htab]; simp
    · intro q hq hqg hqn
      rw [a8, u2_ne _ _ (Or.inr hqg), hrow 0 (by omega)]
    · rw [a8, u2_at]
    · intro q hq
      rw [a9, hrow 1 (by omega)]; exact i8 q hq
    · rw [a10, hrow 6 (by omega)]
/-- the slot of a key, as both find it; none -/
theorem find_tr {F : Nat} {τ : Tau} {k : Int32} : ∀ (t : Gt) (p : Int32) (i n m : Nat), rep τ t p → (tks t).Pairwise (· < ·) → i + (tsl t).length < 61 → (tsl t).length < n → (tsl t).length < m →
    ∃ x, fX4_slotOfKey_7 F τ n k (trt t) (nI i) = some x ∧ fX9_find_5 F (flat τ) m k (trt t) = some x ∧ ((x = -1 ∧ k ∉ tks t) ∨ ∃ s ∈ tsl t, x = nI s ∧ τ 0 s = k)
  | .leaf, p, i, n, m, hr, hs, hi, hn, hm => by
    obtain ⟨n, rfl⟩ : ∃ z, n = z + 1 := ⟨n - 1, by omega⟩
    obtain ⟨m, rfl⟩ : ∃ z, m = z + 1 := ⟨m - 1, by omega⟩
    refine ⟨-1, ?_, ?_, Or.inl ⟨rfl, by simp [tks]⟩⟩
    · show fX4_slotOfKey_7 F τ (n + 1) k (-1) (nI i) = _
      rw [fX4_slotOfKey_7]
      by_cases h : (60 : Int32) ≤ nI i
      · rw [if_pos h]
      · rw [if_neg h, if_pos rfl]
    · show fX9_find_5 F (flat τ) (m + 1) k (-1) = _
      rw [fX9_find_5, if_pos rfl]
  | .inner r s q a b, p, i, n, m, hr, hs, hi, hn, hm => by
    obtain ⟨n, rfl⟩ : ∃ z, n = z + 1 := ⟨n - 1, by omega⟩
    obtain ⟨m, rfl⟩ : ∃ z, m = z + 1 := ⟨m - 1, by omega⟩
    obtain ⟨h1, h2, h3, h4, h5, h6, h7, h8⟩ := hr
    simp only [tsl, List.length_append, List.length_cons] at hi hn hm
    simp only [tks] at hs
    obtain ⟨p1, p2, p3⟩ := pw_app hs
    obtain ⟨p4, p5⟩ := List.pairwise_cons.mp p2
    have hC : fX4_slotOfKey_7 F τ (n + 1) k (nI s) (nI i) = if q = k then some (nI s) else if q ≤ k then fX4_slotOfKey_7 F τ n k (trt b) (nI (i + 1)) else fX4_slotOfKey_7 F τ n k (trt a) (nI (i + 1)) := by
      rw [fX4_slotOfKey_7, if_neg (n60le (by omega)), if_neg (nI_m1 s (by omega)), cg_key h1, h2, Option.bind_some, Option.bind_some, cg_child00 h1, h5, cg_child1 h1, h4, Option.bind_some, Option.bind_some, nI_1]
    have hM : fX9_find_5 F (flat τ) (m + 1) k (nI s) = if q = k then some (nI s) else if q ≤ k then fX9_find_5 F (flat τ) m k (trt b) else fX9_find_5 F (flat τ) m k (trt a) := by
      rw [fX9_find_5, if_neg (nI_m1 s (by omega)), mg_key h1, h2, Option.bind_some, Option.bind_some, mg_child0 h1, h5, mg_child1 h1, h4, Option.bind_some, Option.bind_some]
    show ∃ x, fX4_slotOfKey_7 F τ (n + 1) k (nI s) (nI i) = some x ∧ fX9_find_5 F (flat τ) (m + 1) k (nI s) = some x ∧ _
    rw [hC, hM]
    by_cases e : q = k
    · refine ⟨nI s, by rw [if_pos e], by rw [if_pos e], Or.inr ⟨s, by simp [tsl], rfl, by rw [h2, e]⟩⟩
    · rw [if_neg e, if_neg e]
      by_cases hq : q ≤ k
      · rw [if_pos hq, if_pos hq]
        obtain ⟨x, e1, e2, e3⟩ := find_tr (F := F) (k := k) b (nI s) (i + 1) n m h8 p5 (by omega) (by omega) (by omega)
        refine ⟨x, e1, e2, ?_⟩
        rcases e3 with ⟨e3, e4⟩ | ⟨z, e3, e4, e5⟩
        · refine Or.inl ⟨e3, fun hm => ?_⟩
          rcases List.mem_append.mp hm with hm | hm
          · exact absurd (p3 k hm q (by simp)) (Int32.not_lt.mpr hq)
          · rcases List.mem_cons.mp hm with hm | hm
            · exact e hm.symm
            · exact e4 hm
        · exact Or.inr ⟨z, by simp [tsl, e3], e4, e5⟩
      · rw [if_neg hq, if_neg hq]
        have hlt := i32_not_le.mp hq
        obtain ⟨x, e1, e2, e3⟩ := find_tr (F := F) (k := k) a (nI s) (i + 1) n m h7 p1 (by omega) (by omega) (by omega)
        refine ⟨x, e1, e2, ?_⟩
        rcases e3 with ⟨e3, e4⟩ | ⟨z, e3, e4, e5⟩
        · refine Or.inl ⟨e3, fun hm => ?_⟩
          rcases List.mem_append.mp hm with hm | hm
          · exact e4 hm
          · rcases List.mem_cons.mp hm with hm | hm
            · exact e hm.symm
            · exact absurd (p4 k hm) (Int32.not_lt.mpr (Int32.le_of_lt hlt))
        · exact Or.inr ⟨z, by simp [tsl, e3], e4, e5⟩
theorem find_ok {F : Nat} (hF : 100 ≤ F) {τ : Tau} {t : Gt} (hI : Inv τ t) (k : Int32) : ∃ x, fX4_slotOfKey F τ k = some x ∧ fX9_find F (flat τ) k = some x ∧ ((x = -1 ∧ k ∉ tks t) ∨ ∃ s ∈ tsl t, s < 60 ∧ x = nI s ∧ τ 0 s = k) := by
  obtain ⟨i1, i2, i3, i4, i5, i6, i7, i8, i9, i10⟩ := hI
  obtain ⟨x, e1, e2, e3⟩ := find_tr (F := F) (k := k) t (-1) 0 F F i1 i5 (by omega) (by omega) (by omega)
  refine ⟨x, ?_, ?_, ?_⟩
  · unfold fX4_slotOfKey
    rw [i2]; exact e1
  · unfold fX9_find
    rw [mg_top, i2, Option.bind_some]; exact e2
  · rcases e3 with h | ⟨s, h1, h2, h3⟩
    · exact Or.inl h
    · exact Or.inr ⟨s, h1, rep_lt i1 s h1, h2, h3⟩
