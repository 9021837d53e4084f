/-! ===== node, key, audit; copies of a tree ===== -/
theorem copy_ok (F : Nat) (τ τ2 : Tau) : ∃ τ', fX7_copyFrom F τ τ2 = some τ' ∧ ∀ c k, vd c k → τ' c k = τ2 c k := by
  refine ⟨_, rfl, fun c k h => ?_⟩
  rcases h with ⟨hc, hk⟩ | ⟨rfl, hk⟩ | ⟨rfl, hk⟩ | ⟨rfl, hk⟩
  · rcases (by omega : c = 0 ∨ c = 1 ∨ c = 2 ∨ c = 3 ∨ c = 4 ∨ c = 5) with rfl | rfl | rfl | rfl | rfl | rfl <;> simp [u2, u1, va_cpy, hk]
  · rcases (by omega : k = 0 ∨ k = 1) with rfl | rfl <;> simp [u2, u1, upd]
  · rcases (by omega : k = 0 ∨ k = 1 ∨ k = 2) with rfl | rfl | rfl <;> simp [u2, u1, upd]
  · rcases (by omega : k = 0 ∨ k = 1 ∨ k = 2) with rfl | rfl | rfl <;> simp [u2, u1, upd]
theorem Inv.vd {τ τ' : Tau} {t : Gt} (h : Inv τ t) (e : ∀ c k, vd c k → τ' c k = τ c k) : Inv τ' t := by
  obtain ⟨i1, i2, i3, i4, i5, i6, i7, i8, i9, i10⟩ := h
  refine ⟨?_, ?_, i3, i4, i5, i6, ?_, ?_, ?_, i10⟩
  · refine rep_same i1 (fun s hs => ?_)
    have := rep_lt i1 s hs
    exact ⟨e 0 s (Or.inl ⟨by omega, this⟩), e 2 s (Or.inl ⟨by omega, this⟩), e 3 s (Or.inl ⟨by omega, this⟩), e 4 s (Or.inl ⟨by omega, this⟩), e 5 s (Or.inl ⟨by omega, this⟩)⟩
  · rw [e 6 0 (Or.inr (Or.inl ⟨rfl, by omega⟩))]; exact i2
  · intro s hs hn; rw [e 0 s (Or.inl ⟨by omega, hs⟩)]; exact i7 s hs hn
  · intro s hs; rw [e 1 s (Or.inl ⟨by omega, hs⟩)]; exact i8 s hs
  · rw [e 6 1 (Or.inr (Or.inl ⟨rfl, by omega⟩))]; exact i9
theorem isnode_val {F : Nat} {τ : Tau} {t : Gt} (hI : Inv τ t) (x : Int32) : fX9_isNode F (flat τ) x = some (if 0 ≤ x ∧ x < nI (tsl t).length then 1 else 0) := by
  unfold fX9_isNode
  rw [mg_many, Option.bind_some, show (0 : Int64) = (0 : Int32).toInt64 from rfl, in_val, Option.bind_some, hI.2.2.2.2.2.2.2.2.1]
  have hl := hI.2.2.2.2.2.2.2.2.2
  have e : (0 ≤ x ∧ x ≤ nI (tsl t).length - 1) ↔ (0 ≤ x ∧ x < nI (tsl t).length) := by
    refine and_congr_right fun h0 => ?_
    obtain ⟨j, hj, rfl⟩ := nI_of (Int32.not_lt.mpr h0)
    have e1 : nI (tsl t).length - 1 = oI ((tsl t).length - 1) := by rw [nI_oI]; exact oI_sub _ 1
    rw [e1, Int32.lt_iff_toInt_lt, Int32.le_iff_toInt_le, nI_toInt hj, nI_toInt (by omega : (tsl t).length < 2 ^ 31)]
    unfold oI
    rw [Int32.toInt_ofInt_of_le (by omega) (by omega)]
    omega
  by_cases h : 0 ≤ x ∧ x < nI (tsl t).length
  · rw [if_pos (e.mpr h), if_pos h]; rfl
  · rw [if_neg (fun z => h (e.mp z)), if_neg h]; rfl
theorem node_pos {F : Nat} (hF : 100 ≤ F) {τ : Tau} {t : Gt} (hI : Inv τ t) (x : Int32) : (fX4_slotOfNumber F τ x = some (-1) ∧ fX9_isNode F (flat τ) x = some 0) ∨ ∃ k s e l1 l2, x = nI k ∧ k < 60 ∧ s < 60 ∧ dps t 0 = l1 ++ (s, e) :: l2 ∧ l1.length = k ∧ fX4_slotOfNumber F τ x = some (nI s) ∧ fX9_isNode F (flat τ) x = some 1 := by
  rw [isnode_val hI]
  unfold fX4_slotOfNumber
  have hl := hI.2.2.2.2.2.2.2.2.2
  rw [hI.2.2.2.2.2.2.2.2.1]
  by_cases h0 : x < 0
  · exact Or.inl ⟨by rw [if_pos h0], by rw [if_neg (fun z => absurd h0 (Int32.not_lt.mpr z.1))]⟩
  · rw [if_neg h0]
    by_cases h1 : x < nI (tsl t).length
    · obtain ⟨k, hk, rfl⟩ := nI_of h0
      have hkl : k < (tsl t).length := (nI_ltI hk (by omega)).mp h1
      obtain ⟨p, g1, g2⟩ := slotno (F := F) hF hI.str (dps t 0) [] (τ 6 0) k F rfl (num_first hI.str) (by simp) (by rw [dps_len]; simpa using hkl) (by omega) (by rw [dps_len]; omega)
      have hlt : k < (dps t 0).length := by rw [dps_len]; exact hkl
      simp only [List.length_nil, Nat.sub_zero] at g1
      have hp : p = (dps t 0)[k] := by rw [List.getElem?_eq_getElem hlt] at g1; exact (Option.some.inj g1).symm
      obtain ⟨s, e⟩ := p
      have hd : dps t 0 = (dps t 0).take k ++ (s, e) :: (dps t 0).drop (k + 1) := by
        rw [hp, List.getElem_cons_drop, List.take_append_drop]
      refine Or.inr ⟨k, s, e, _, _, rfl, by omega, ?_, hd, by simp; omega, ?_, ?_⟩
      · exact rep_lt hI.1 s (dps_mem t 0 (s, e) (by rw [hd]; simp))
      · rw [if_pos h1]; exact g2
      · rw [if_pos ⟨Int32.not_lt.mp h0, h1⟩]
    · exact Or.inl ⟨by rw [if_neg h1], by rw [if_neg (fun z => h1 z.2)]⟩
theorem no_child {F : Nat} (hF : 100 ≤ F) {τ : Tau} {t : Gt} (hI : Inv τ t) {o nu ab : Nat → Int32} (hn : nmL (dps t 0) 0 o nu ab) {a : Gt} {p : Int32} (ha : rep τ a p) (hs : ∀ s ∈ tsl a, s ∈ tsl t) : ∃ r, fX4_numberOfSlot F τ (trt a) = some r ∧ fX9_numberAt F nu (trt a) = some r := by
  unfold fX4_numberOfSlot fX9_numberAt
  have hl := hI.2.2.2.2.2.2.2.2.2
  cases a with
  | leaf =>
    refine ⟨-1, ?_, by rw [if_pos (show trt .leaf = -1 from rfl)]⟩
    exact noNone (F := F) hF hI.str hI.2.2.2.2.2.2.2.2.1 (dps t 0) [] (τ 6 0) F rfl (num_first hI.str) (by rw [dps_len]; omega)
  | inner r s k a b =>
    have s60 : s < 60 := ha.1
    obtain ⟨e, he⟩ := mem_dps (hs s (by simp [tsl])) 0
    obtain ⟨l1, l2, hl12⟩ := List.append_of_mem he
    have hlen : (tsl t).length = l1.length + (l2.length + 1) := by rw [← dps_len t 0, hl12]; simp
    refine ⟨nI l1.length, ?_, ?_⟩
    · have := noOf (F := F) hF hI.str hI.2.2.2.2.2.2.2.2.1 s60 l1 [] l2 (τ 6 0) F hl12 (hl12 ▸ num_first hI.str) (by omega)
      rw [List.length_nil, Nat.zero_add] at this
      exact this
    · show (if nI s = -1 then _ else if nI s < 0 ∨ 60 ≤ (nI s).toNatClampNeg then none else some (nu (nI s).toNatClampNeg)) = _
      obtain ⟨z1, z2, z3⟩ := hn l1.length (s, e) (by rw [hl12, List.getElem?_append_right (by omega), Nat.sub_self]; rfl)
      rw [if_neg (nI_m1 s (by omega)), if_neg (nI_nin s60 (by omega)), nI_cl s60, z2, Nat.zero_add]
theorem node_ok {F : Nat} (hF : 100 ≤ F) {σ : Sig} {t : Gt} (hI : Inv (σ 0) t) (o nu ab pi : Nat → Int32) (x w : Int32) : ∃ r o' nu' ab' pi', fX8_node F σ x w = some r ∧ fX9_node F (flat (σ 0)) o nu ab pi x w = some (r, o', nu', ab', pi') := by
  unfold fX8_node fX9_node
  have hlen := hI.2.2.2.2.2.2.2.2.2
  rcases node_pos hF hI x with ⟨e1, e2⟩ | ⟨k, s, e, l1, l2, hk, k60, s60, hd, hl1, e1, e2⟩
  · rw [e1, e2, Option.bind_some, Option.bind_some, if_pos rfl, if_pos rfl]
    exact ⟨_, o, nu, ab, pi, rfl, rfl⟩
  · rw [e1, e2, Option.bind_some, Option.bind_some, if_neg (nI_m1 s (by omega)), if_neg (show ¬ (1 : Int32) = 0 by decide)]
    obtain ⟨o', nu', ab', pi', f1, f2⟩ := numbers_ok hF hI o nu ab pi
    have hmem : (s, e) ∈ dps t 0 := by rw [hd]; simp
    obtain ⟨c, r, kk, a, b, et, hc, -, hr, hrc, hc60⟩ := ctx_of hI.str hmem
    obtain ⟨z1, z2, z3⟩ := f2 l1.length (s, e) (by rw [hd, List.getElem?_append_right (by omega), Nat.sub_self]; rfl)
    rw [Nat.zero_add] at z1 z2
    rw [hl1] at z1 z2
    obtain ⟨h1, h2, h3, h4, h5, h6, h7, h8⟩ := id hr
    have hperm := tsl_plug c (nd r s kk a b)
    rw [← et] at hperm
    rw [f1, Option.bind_some]
    dsimp only
    rw [hk, if_neg (nI_nin k60 (by omega)), nI_cl k60]
    simp only [z1]
    by_cases w0 : w = 0
    · subst w0
      rw [if_pos rfl, if_pos rfl, cg_key s60, mg_key s60]
      exact ⟨_, o', nu', ab', pi', rfl, rfl⟩
    rw [if_neg w0, if_neg w0]
    by_cases w1 : w = 1
    · subst w1
      rw [if_pos rfl, if_pos rfl, cg_rank s60, mg_rk s60]
      exact ⟨_, o', nu', ab', pi', rfl, rfl⟩
    rw [if_neg w1, if_neg w1]
    by_cases w2 : w = 2
    · subst w2
      rw [if_pos rfl, if_pos rfl, above_ok hF s60 h6 hrc (by omega), if_neg (nI_nin s60 (by omega)), nI_cl s60, z3, hc]
      exact ⟨_, o', nu', ab', pi', rfl, rfl⟩
    rw [if_neg w2, if_neg w2]
    by_cases w3 : w = 3
    · subst w3
      obtain ⟨rr, g1, g2⟩ := no_child (F := F) hF hI f2 h7 (fun q hq => hperm.mem_iff.mpr (by simp [tsl, hq]))
      rw [if_pos rfl, if_pos rfl, cg_left s60, mg_left s60, h4, Option.bind_some, Option.bind_some, g1, g2]
      exact ⟨_, o', nu', ab', pi', rfl, rfl⟩
    rw [if_neg w3, if_neg w3]
    by_cases w4 : w = 4
    · subst w4
      obtain ⟨rr, g1, g2⟩ := no_child (F := F) hF hI f2 h8 (fun q hq => hperm.mem_iff.mpr (by simp [tsl, hq]))
      rw [if_pos rfl, if_pos rfl, cg_right s60, mg_right s60, h5, Option.bind_some, Option.bind_some, g1, g2]
      exact ⟨_, o', nu', ab', pi', rfl, rfl⟩
    rw [if_neg w4, if_neg w4]
    by_cases w5 : w = 5
    · subst w5
      rw [if_pos rfl, if_pos rfl, size_cl hF hI et]
      have hd2 : dps t 0 = dpl c 0 ++ (s, c.length) :: (dps a (c.length + 1) ++ dps b (c.length + 1) ++ dpr c 0) := by
        rw [et, dps_plug]; simp [dps]
      obtain ⟨q1, q2, q3⟩ := psplit (by rw [← hd]; exact dps_nodup hI.2.2.1 0) (hd.symm.trans hd2)
      have hsz := size_mo (F := F) hI f2 (s := s) (d := c.length) s60 (by rw [z3, hc]) hc60 (dps a (c.length + 1) ++ dps b (c.length + 1)) (l1 ++ [(s, e)]) (dpr c 0) k (F - 1) (by rw [hd, q3]; simp) (by simp; omega) (by simp; omega) (fun p hp => (by
        rcases List.mem_append.mp hp with hp | hp
        · have := dps_ge a _ p hp; omega
        · have := dps_ge b _ p hp; omega)) (fun p l hp => dpr_head c p l hp) (by
          have := congrArg List.length hd2
          rw [dps_len] at this
          simp only [List.length_append, List.length_cons] at this ⊢
          omega)
      have hl2 : (l1 ++ [(s, e)]).length - k = 1 := by simp; omega
      rw [hl2] at hsz
      have hso : fX9_sizeOf F (flat (σ 0)) o' nu' ab' (nI s) = some (nI (tsl (nd r s kk a b)).length) := by
        unfold fX9_sizeOf
        rw [if_neg (nI_nin s60 (by omega)), nI_cl s60, z2]
        obtain ⟨f, rfl⟩ : ∃ f, F = f + 1 := ⟨F - 1, by omega⟩
        have hll : (tsl t).length = l1.length + (l2.length + 1) := by rw [← dps_len t 0, hd]; simp
        rw [fX9_sizeOf_9, mg_many, Option.bind_some, hI.2.2.2.2.2.2.2.2.1, Int32.add_zero, if_neg (nI_ge (by omega) (by omega)), if_pos rfl]
        rw [Nat.add_sub_cancel] at hsz
        rw [show (0 : Int32) + 1 = nI 1 from rfl, hsz, tsl_nd]
        congr 2
        simp only [List.length_append, List.length_cons, dps_len]
        omega
      rw [hso]
      exact ⟨_, o', nu', ab', pi', rfl, rfl⟩
    rw [if_neg w5, if_neg w5]
    by_cases w6 : w = 6
    · subst w6
      rw [if_pos rfl, if_pos rfl, mg_top, Option.bind_some]
      by_cases ht : nI s = σ 0 6 0
      · rw [if_pos ht, if_pos ht]
        exact ⟨_, o', nu', ab', pi', rfl, rfl⟩
      · rw [if_neg ht, if_neg ht, cg_parent s60, mg_parent s60, Option.bind_some, Option.bind_some]
        have hp : ∃ q, q < 60 ∧ σ 0 5 s = nI q := by
          cases c with
          | nil => exact absurd hrc.symm ht
          | cons f c =>
            obtain ⟨x1, x2, x3, x4, x5⟩ := f
            exact ⟨x3, hrc.1, h6⟩
        obtain ⟨q, q60, hq⟩ := hp
        rw [hq, cg_step (cg_rank q60) (cg_rank s60), mg_step q60 (mg_rank s60)]
        exact ⟨_, o', nu', ab', pi', rfl, rfl⟩
    rw [if_neg w6, if_neg w6]
    exact ⟨_, o', nu', ab', pi', rfl, rfl⟩
theorem key_ok {F : Nat} (hF : 100 ≤ F) {σ : Sig} {t : Gt} (hI : Inv (σ 0) t) (o nu ab pi : Nat → Int32) (x w : Int32) : ∃ r o' nu' ab' pi', fX8_key F σ x w = some r ∧ fX9_key F (flat (σ 0)) o nu ab pi x w = some (r, o', nu', ab', pi') := by
  obtain ⟨y, f1, f2, f3⟩ := find_ok hF hI x
  unfold fX8_key fX9_key
  rw [f1, Option.bind_some]
  rcases f3 with ⟨f3, f4⟩ | ⟨s, s1, s60, s3, s4⟩
  · rw [if_pos f3]
    refine ⟨_, o, nu, ab, pi, rfl, ?_⟩
    by_cases h : 0 ≤ x
    · rw [if_pos h, f2, Option.bind_some]
      unfold fX9_key_13
      rw [if_pos f3]
    · rw [if_neg h]
      unfold fX9_key_13
      rw [if_pos rfl]
  · have hx := (hI.2.2.2.2.2.1 x (s4 ▸ key_mem hI.1 s1)).1
    have hy : ¬ y = -1 := by rw [s3]; exact nI_m1 s (by omega)
    rw [if_neg hy, if_pos hx, f2, Option.bind_some]
    unfold fX9_key_13
    obtain ⟨o', nu', ab', pi', g1, g2⟩ := numbers_ok hF hI o nu ab pi
    rw [if_neg hy, g1, Option.bind_some, s3]
    dsimp only
    by_cases w0 : w = 0
    · subst w0
      rw [if_pos rfl, if_pos rfl, cg_worth s60, mg_worth s60]
      exact ⟨_, o', nu', ab', pi', rfl, rfl⟩
    rw [if_neg w0, if_neg w0]
    by_cases w1 : w = 1
    · subst w1
      obtain ⟨c, r, kk, a, b, et⟩ := locate s1
      obtain ⟨n1, n2⟩ := (rep_plug (τ := σ 0) c (nd r s kk a b)).mp ⟨by rw [← et]; exact hI.1, by rw [← et]; exact hI.2.1⟩
      have hperm := tsl_plug c (nd r s kk a b)
      rw [← et] at hperm
      obtain ⟨rr, q1, q2⟩ := no_child (F := F) hF hI g2 n1 (fun q hq => hperm.mem_iff.mpr (by simp [hq]))
      have q1' : fX4_numberOfSlot F (σ 0) (nI s) = some rr := q1
      have q2' : fX9_numberAt F nu' (nI s) = some rr := q2
      unfold fX9_numberAt at q2'
      rw [if_neg (nI_m1 s (by omega)), if_neg (nI_nin s60 (by omega))] at q2'
      rw [if_pos rfl, if_pos rfl, q1', if_neg (nI_nin s60 (by omega)), Option.some.inj q2']
      exact ⟨_, o', nu', ab', pi', rfl, rfl⟩
    rw [if_neg w1, if_neg w1]
    by_cases w2 : w = 2
    · subst w2
      obtain ⟨e1, e2⟩ := scan_less (F := F) (τ := σ 0) x 60 0 F F 0 (by omega) (by omega) (by omega)
      rw [nI_0] at e1 e2
      unfold fX6_howManyLess fX9_lessThan
      rw [if_pos rfl, if_pos rfl, e1, e2]
      exact ⟨_, o', nu', ab', pi', rfl, rfl⟩
    rw [if_neg w2, if_neg w2]
    exact ⟨_, o', nu', ab', pi', rfl, rfl⟩
