/-! ===== depth; a node by number; a key ===== -/
theorem ctx_of {τ : Tau} {t : Gt} (hI : Str τ t) {s e : Nat} (h : (s, e) ∈ dps t 0) : ∃ c r k a b, t = plug c (nd r s k a b) ∧ c.length = e ∧ s < 60 ∧ rep τ (nd r s k a b) (cpar c) ∧ repc τ c (nI s) ∧ c.length < 60 := by
  obtain ⟨i1, i2, i3, i10⟩ := hI
  have hs : s ∈ tsl t := dps_mem t 0 (s, e) h
  obtain ⟨c, r, k', a, b, et⟩ := locate hs
  obtain ⟨n1, n2⟩ := (rep_plug (τ := τ) c (nd r s k' a b)).mp ⟨by rw [← et]; exact i1, by rw [← et]; exact i2⟩
  have hd : dps t 0 = dpl c 0 ++ (s, c.length) :: (dps a (c.length + 1) ++ dps b (c.length + 1) ++ dpr c 0) := by
    rw [et, dps_plug]; simp [dps]
  obtain ⟨l1, l2, hl⟩ := List.append_of_mem h
  have hn := dps_nodup i3 0
  rw [hl] at hn
  have := (psplit hn (hl.symm.trans hd)).2.1
  have hplen := plug_len c (nd r s k' a b)
  rw [← et, tsl_nd, List.length_append, List.length_cons] at hplen
  have hcl := csl_len c
  exact ⟨c, r, k', a, b, et, this.symm, n1.1, n1, n2, by omega⟩
theorem mem_dps {t : Gt} {s : Nat} (h : s ∈ tsl t) (d : Nat) : ∃ e, (s, e) ∈ dps t d := by
  have := (dps_perm t d).mem_iff.mpr h
  obtain ⟨⟨a, e⟩, h1, h2⟩ := List.mem_map.mp this
  exact ⟨e, by rw [← h2]; exact h1⟩
/-- the greatest of the depths, by one -/
def isM (P : Nat × Nat → Prop) (M : Nat) : Prop := (∀ p, P p → p.2 + 1 ≤ M) ∧ (M = 0 ∨ ∃ p, P p ∧ M = p.2 + 1)
theorem isM_uniq {P : Nat × Nat → Prop} {M M' : Nat} (h : isM P M) (h' : isM P M') : M = M' := by
  rcases h with ⟨a, b | ⟨p, b1, b2⟩⟩ <;> rcases h' with ⟨a', b' | ⟨p', b1', b2'⟩⟩
  · omega
  · have := a p' b1'; omega
  · have := a' p b1; omega
  · have := a p' b1'; have := a' p b1; omega
theorem depth_cl {F : Nat} (hF : 100 ≤ F) {τ : Tau} {t : Gt} (hI : Inv τ t) : ∀ (j i n M : Nat), i + j = 60 → j < n → M ≤ 60 → isM (fun p => p ∈ dps t 0 ∧ p.1 < i) M → ∃ M', M' ≤ 60 ∧ fX6_depth_4 F τ n (nI M) (nI i) = some (nI M') ∧ isM (fun p => p ∈ dps t 0 ∧ p.1 < 60) M'
  | 0, i, n, M, hi, hn, hM, h => by
    obtain ⟨n, rfl⟩ : ∃ z, n = z + 1 := ⟨n - 1, by omega⟩
    obtain rfl : i = 60 := by omega
    have h60 : (60 : Int32) ≤ nI 60 := by decide
    exact ⟨M, hM, by rw [fX6_depth_4, if_pos h60], h⟩
  | j + 1, i, n, M, hi, hn, hM, h => by
    obtain ⟨n, rfl⟩ : ∃ z, n = z + 1 := ⟨n - 1, by omega⟩
    have i60 : i < 60 := by omega
    rw [fX6_depth_4, if_neg (n60le i60), cg_key i60, Option.bind_some, nI_1]
    by_cases hs : i ∈ tsl t
    · have hk := (hI.2.2.2.2.2.1 _ (key_mem hI.1 hs)).1
      rw [if_neg (fun e => absurd (e ▸ hk) (by decide))]
      obtain ⟨e, he⟩ := mem_dps hs 0
      obtain ⟨c, r, k, a, b, et, hc, -, hr, hrc, hc60⟩ := ctx_of hI.str he
      rw [above_ok hF i60 hr.2.2.2.2.2.1 hrc (by omega), Option.bind_some, nI_1, hc]
      have huni : ∀ e', (i, e') ∈ dps t 0 → e' = e := fun e' he' => by
        obtain ⟨l1, l2, hl⟩ := List.append_of_mem he'
        obtain ⟨m1, m2, hm⟩ := List.append_of_mem he
        have hn := dps_nodup hI.2.2.1 0
        rw [hl] at hn
        exact (psplit hn (hl.symm.trans hm)).2.1
      by_cases hlt : M < e + 1
      · rw [if_pos (nI_lt hlt (by omega))]
        refine depth_cl hF hI j (i + 1) n (e + 1) (by omega) (by omega) (by omega) ⟨fun p hp => ?_, Or.inr ⟨(i, e), ⟨he, by simp⟩, rfl⟩⟩
        obtain ⟨q, e'⟩ := p
        by_cases hq : q = i
        · subst hq; have := huni e' hp.1; show e' + 1 ≤ e + 1; omega
        · have h2 : q < i + 1 := hp.2
          have := h.1 (q, e') ⟨hp.1, by show q < i; omega⟩
          omega
      · rw [if_neg (nI_nlt (by omega) (by omega))]
        refine depth_cl hF hI j (i + 1) n M (by omega) (by omega) hM ⟨fun p hp => ?_, ?_⟩
        · obtain ⟨q, e'⟩ := p
          by_cases hq : q = i
          · subst hq; have := huni e' hp.1; show e' + 1 ≤ M; omega
          · have h2 : q < i + 1 := hp.2
            exact h.1 (q, e') ⟨hp.1, by show q < i; omega⟩
        · rcases h.2 with h2 | ⟨p, ⟨h2, h2'⟩, h3⟩
          · exact Or.inl h2
          · exact Or.inr ⟨p, ⟨h2, by omega⟩, h3⟩
    · rw [if_pos (hI.2.2.2.2.2.2.1 i i60 hs)]
      refine depth_cl hF hI j (i + 1) n M (by omega) (by omega) hM ⟨fun p hp => ?_, ?_⟩
      · obtain ⟨q, e'⟩ := p
        by_cases hq : q = i
        · subst hq; exact absurd (dps_mem t 0 _ hp.1) hs
        · have h2 : q < i + 1 := hp.2
          exact h.1 (q, e') ⟨hp.1, by show q < i; omega⟩
      · rcases h.2 with h2 | ⟨p, ⟨h2, h2'⟩, h3⟩
        · exact Or.inl h2
        · exact Or.inr ⟨p, ⟨h2, by omega⟩, h3⟩
theorem depth_mo {F : Nat} {τ : Tau} {t : Gt} (hI : Inv τ t) {o nu ab pi : Nat → Int32} (hn : nmL (dps t 0) 0 o nu ab) : ∀ (l2 l1 : List (Nat × Nat)) (n M : Nat), dps t 0 = l1 ++ l2 → l2.length < n → M ≤ 60 → isM (fun p => p ∈ l1) M → ∃ M', M' ≤ 60 ∧ fX9_depth_8 F (flat τ) n o nu ab pi (nI M) (nI l1.length) = some (nI M', o, nu, ab, pi) ∧ isM (fun p => p ∈ dps t 0) M'
  | [], l1, n, M, ht, hln, hM, h => by
    obtain ⟨n, rfl⟩ : ∃ z, n = z + 1 := ⟨n - 1, by omega⟩
    have hlen : (tsl t).length = l1.length := by rw [← dps_len t 0, ht]; simp
    refine ⟨M, hM, ?_, by rw [ht, List.append_nil]; exact h⟩
    rw [fX9_depth_8, mg_many, Option.bind_some, hI.2.2.2.2.2.2.2.2.1, hlen, if_pos (Int32.le_refl _)]
  | (s, e) :: l2, l1, n, M, ht, hln, hM, h => by
    obtain ⟨n, rfl⟩ : ∃ z, n = z + 1 := ⟨n - 1, by omega⟩
    simp only [List.length_cons] at hln
    have hlen : (tsl t).length = l1.length + (l2.length + 1) := by rw [← dps_len t 0, ht]; simp
    have h60 := hI.2.2.2.2.2.2.2.2.2
    have hmem : (s, e) ∈ dps t 0 := by rw [ht]; simp
    obtain ⟨c, r, k, a, b, et, hc, s60, hr, hrc, hc60⟩ := ctx_of hI.str hmem
    obtain ⟨z1, z2, z3⟩ := hn l1.length (s, e) (by rw [ht, List.getElem?_append_right (by omega), Nat.sub_self]; rfl)
    rw [Nat.zero_add] at z1 z2
    rw [fX9_depth_8, mg_many, Option.bind_some, hI.2.2.2.2.2.2.2.2.1, if_neg (nI_ge (by omega) (by omega)), if_neg (nI_nin (by omega) (by omega)), nI_cl (by omega : l1.length < 60), z1, if_neg (nI_nin s60 (by omega)), nI_cl s60, z3, nI_1, nI_1, if_neg (show ¬ (nI l1.length < 0 ∨ 60 ≤ l1.length) from fun z => z.elim (nI_pos (by omega)) (by omega)), if_neg (show ¬ (nI s < 0 ∨ 60 ≤ s) from fun z => z.elim (nI_pos (by omega)) (by omega))]
    have hl1 : (l1 ++ [(s, e)]).length = l1.length + 1 := by simp
    show ∃ M', M' ≤ 60 ∧ (if nI (e + 1) ≤ nI M then _ else _) = _ ∧ _
    by_cases hle : e + 1 ≤ M
    · rw [if_pos (nI_le hle (by omega))]
      have := depth_mo hI hn (F := F) (pi := pi) l2 (l1 ++ [(s, e)]) n M (by rw [ht]; simp) (by omega) hM ⟨fun p hp => (by
        rcases List.mem_append.mp hp with hp | hp
        · exact h.1 p hp
        · rw [List.mem_singleton.mp hp]; exact hle), (by
        rcases h.2 with h2 | ⟨p, h2, h3⟩
        · exact Or.inl h2
        · exact Or.inr ⟨p, by simp [h2], h3⟩)⟩
      rw [hl1] at this
      exact this
    · rw [if_neg (nI_ge (by omega) (by omega))]
      have := depth_mo hI hn (F := F) (pi := pi) l2 (l1 ++ [(s, e)]) n (e + 1) (by rw [ht]; simp) (by omega) (by omega) ⟨fun p hp => (by
        rcases List.mem_append.mp hp with hp | hp
        · have := h.1 p hp; omega
        · rw [List.mem_singleton.mp hp]; exact Nat.le_refl _), Or.inr ⟨(s, e), by simp, rfl⟩⟩
      rw [hl1] at this
      exact this
theorem depth_ok {F : Nat} (hF : 100 ≤ F) {τ : Tau} {t : Gt} (hI : Inv τ t) (o nu ab pi : Nat → Int32) : ∃ r o' nu' ab' pi', fX6_depth F τ = some r ∧ fX9_depth F (flat τ) o nu ab pi = some (r, o', nu', ab', pi') := by
  obtain ⟨M, m1, m2, m3⟩ := depth_cl hF hI 60 0 F 0 (by omega) (by omega) (by omega) ⟨fun p hp => by omega, Or.inl rfl⟩
  obtain ⟨o', nu', ab', pi', e1, e2⟩ := numbers_ok hF hI o nu ab pi
  have hlen := hI.2.2.2.2.2.2.2.2.2
  obtain ⟨M', p1, p2, p3⟩ := depth_mo (F := F) hI e2 (pi := pi') (dps t 0) [] F 0 rfl (by rw [dps_len]; omega) (by omega) ⟨fun p hp => (by cases hp), Or.inl rfl⟩
  have hMM : M = M' := isM_uniq (P := fun p => p ∈ dps t 0) ⟨fun p hp => m3.1 p ⟨hp, rep_lt hI.1 _ (dps_mem t 0 p hp)⟩, m3.2.imp id (fun ⟨p, h1, h2⟩ => ⟨p, h1.1, h2⟩)⟩ p3
  subst hMM
  refine ⟨nI M, o', nu', ab', pi', m2, ?_⟩
  unfold fX9_depth
  rw [e1, Option.bind_some]
  exact p2

/-! sizes -/
theorem cnt_list {l : List Nat} (hn : l.Nodup) (hl : ∀ s ∈ l, s < 60) {P : Nat → Bool} (hP : ∀ s, s < 60 → (P s = true ↔ s ∈ l)) : (List.range' 0 60).countP P = l.length := by
  rw [List.countP_eq_length_filter]
  apply List.Perm.length_eq
  rw [List.perm_ext_iff_of_nodup (List.Pairwise.sublist List.filter_sublist (show (List.range' 0 60).Nodup from List.nodup_range' (step := 1))) hn]
  intro a
  rw [List.mem_filter, List.mem_range'_1]
  constructor
  · rintro ⟨h1, h2⟩; exact (hP a (by omega)).mp h2
  · intro h; exact ⟨by have := hl a h; omega, (hP a (hl a h)).mpr h⟩
theorem size_cl {F : Nat} (hF : 100 ≤ F) {τ : Tau} {t : Gt} (hI : Inv τ t) {c : List Fr} {r s : Nat} {k : Int32} {a b : Gt} (et : t = plug c (nd r s k a b)) : fX6_howManyBelow F τ (nI s) = some (nI (tsl (nd r s k a b)).length) := by
  obtain ⟨i1, i2, i3, i4, i5, i6, i7, i8, i9, i10⟩ := hI
  obtain ⟨n1, n2⟩ := (rep_plug (τ := τ) c (nd r s k a b)).mp ⟨by rw [← et]; exact i1, by rw [← et]; exact i2⟩
  have hperm := tsl_plug c (nd r s k a b)
  rw [← et] at hperm
  have hnd := hperm.nodup i3
  have hplen := hperm.length_eq
  rw [List.length_append] at hplen
  have hne : nd r s k a b ≠ .leaf := by intro e; cases e
  obtain ⟨cb, r', g, kg, bb, e1, e2, e3, e4⟩ := least_ok (F := F) (nd r s k a b) (cpar c) 0 F F n1 hne (by omega) (by omega) (by omega)
  obtain ⟨G, kG, l, g1, g2, g3, g4⟩ := great_ok (F := F) (nd r s k a b) (cpar c) 0 F n1 hne (by omega) (by omega)
  have hgm : g ∈ tsl (nd r s k a b) := by rw [e1, (tsl_plug cb _).mem_iff]; simp [tsl]
  have g60 := rep_lt n1 g hgm
  have G60 := rep_lt n1 G g1
  have hkx : tks (nd r s k a b) = kg :: (tks bb ++ ckr cb) := by rw [e1, tks_plug, e2]; simp [tks]
  have hkg : τ 0 g = kg := by
    have hm := tks_map n1
    have : ∀ (c : List Fr) (x : Gt) (p : Int32), rep τ (plug c x) p → ∃ p', rep τ x p' := by
      intro c
      induction c with
      | nil => intro x p h; exact ⟨p, h⟩
      | cons f c ih =>
        intro x p h
        obtain ⟨d, r, s, k, o⟩ := f
        obtain ⟨p', h'⟩ := ih _ p h
        exact ⟨_, (rep_nd2.mp h').2.2.2.2.2.2.1⟩
    obtain ⟨p', h'⟩ := this cb _ _ (e1 ▸ n1)
    exact h'.2.1
  unfold fX6_howManyBelow fX4_leastBelow fX4_greatestBelow fX4_endOf
  have e3' : fX4_endOf_5 F τ F 1 (nI s) 0 = some (nI g) := e3
  have g4' : fX4_endOf_5 F τ F 0 (nI s) 0 = some (nI G) := g4
  rw [e3', g4', Option.bind_some, Option.bind_some, Option.bind_some, cg_key g60, Option.bind_some, Option.bind_some, cg_key G60, Option.bind_some, hkg, g3]
  unfold fX6_howManyFrom
  have := scan_from (F := F) (τ := τ) kg kG 60 0 F 0 (by omega) (by omega)
  rw [nI_0, Int32.zero_add] at this
  rw [this, Option.bind_some]
  congr 2
  have hkt : tks t = ckl c ++ tks (nd r s k a b) ++ ckr c := by rw [et, tks_plug]
  rw [hkt] at i5
  obtain ⟨p1, p2, p3⟩ := pw_app i5
  obtain ⟨q1, q2, q3⟩ := pw_app p1
  refine cnt_list (List.nodup_append.mp hnd).1 (rep_lt n1) (fun q q60 => ?_)
  rw [decide_eq_true_eq]
  constructor
  · rintro ⟨z1, z2, z3⟩
    have hq : q ∈ tsl t := Classical.byContradiction fun h => z1 (i7 q q60 h)
    rcases List.mem_append.mp (hperm.mem_iff.mp hq) with h | h
    · exact h
    · have hqk := key_mem i1 hq
      rw [hkt] at hqk
      exfalso
      have hin : τ 0 q ∈ tks (nd r s k a b) := by
        rcases List.mem_append.mp hqk with hqk | hqk
        · rcases List.mem_append.mp hqk with hqk | hqk
          · have := q3 _ hqk kg (by rw [hkx]; simp)
            exact absurd this (Int32.not_lt.mpr z2)
          · exact hqk
        · have := p3 kG (by rw [g2]; simp) _ hqk
          exact absurd this (Int32.not_lt.mpr z3)
      obtain ⟨q', h1, h2⟩ := mem_key n1 hin
      have hq' : q' ∈ tsl t := hperm.mem_iff.mpr (by simp [h1])
      have : q = q' := by
        have h := tks_map i1
        rw [← hkt, h, List.pairwise_map] at i5
        exact pw_inj i5 hq hq' h2.symm
      subst this
      exact (List.nodup_append.mp hnd).2.2 q h1 q h rfl
  · intro h
    have hk := key_mem n1 h
    have hkt' : τ 0 q ∈ tks t := by rw [hkt]; simp [hk]
    refine ⟨fun e => absurd (e ▸ (i6 _ hkt').1) (by decide), ?_, ?_⟩
    · rw [hkx] at hk q2
      rcases List.mem_cons.mp hk with h | h
      · rw [h]; exact Int32.le_refl _
      · exact Int32.le_of_lt ((List.pairwise_cons.mp q2).1 _ h)
    · rw [g2] at hk q2
      rcases List.mem_append.mp hk with h | h
      · exact Int32.le_of_lt ((pw_app q2).2.2 _ h kG (by simp))
      · rw [List.mem_singleton.mp h]; exact Int32.le_refl _
theorem dps_ge : ∀ (t : Gt) (d : Nat) (p : Nat × Nat), p ∈ dps t d → d ≤ p.2
  | .leaf, _, _, h => by cases h
  | .inner r s k a b, d, p, h => by
    rcases List.mem_cons.mp h with rfl | h
    · exact Nat.le_refl _
    · rcases List.mem_append.mp h with h | h
      · have := dps_ge a _ p h; omega
      · have := dps_ge b _ p h; omega
theorem dpr_head : ∀ (c : List Fr) (p : Nat × Nat) (l : List (Nat × Nat)), dpr c 0 = p :: l → p.2 ≤ c.length
  | [], p, l, h => by cases h
  | (x, r, q, k, o) :: c, p, l, h => by
    simp only [dpr] at h
    cases x
    · simp only [Bool.false_eq_true, if_false, List.nil_append] at h
      have := dpr_head c p l h
      simp only [List.length_cons]; omega
    · simp only [if_true] at h
      cases o with
      | leaf =>
        simp only [dps, List.nil_append] at h
        have := dpr_head c p l h
        simp only [List.length_cons]; omega
      | inner r2 s2 k2 a2 b2 =>
        simp only [dps, List.cons_append, List.cons.injEq] at h
        rw [← h.1.symm.symm]
        simp only [List.length_cons]; omega
theorem size_mo {F : Nat} {τ : Tau} {t : Gt} (hI : Inv τ t) {o nu ab : Nat → Int32} (hn : nmL (dps t 0) 0 o nu ab) {s d : Nat} (s60 : s < 60) (hab : ab s = nI d) (hd : d < 60) : ∀ (m l1 l2 : List (Nat × Nat)) (x n : Nat), dps t 0 = l1 ++ m ++ l2 → x ≤ l1.length → x < l1.length → (∀ p ∈ m, d < p.2) → (∀ p l, l2 = p :: l → p.2 ≤ d) → m.length < n → fX9_sizeOf_9 F (flat τ) o nu ab n (nI s) (nI (l1.length - x)) (nI x) = some (nI (l1.length - x + m.length))
  | [], l1, l2, x, n, ht, hx, hx1, hm, hl, hln => by
    obtain ⟨n, rfl⟩ : ∃ z, n = z + 1 := ⟨n - 1, by omega⟩
    have hlen : (tsl t).length = l1.length + l2.length := by rw [← dps_len t 0, ht]; simp
    have h60 := hI.2.2.2.2.2.2.2.2.2
    rw [fX9_sizeOf_9, mg_many, Option.bind_some, hI.2.2.2.2.2.2.2.2.1, nI_add, show x + (l1.length - x) = l1.length by omega]
    cases l2 with
    | nil =>
      rw [if_pos (nI_le (by rw [hlen]; simp) (by omega))]
      rfl
    | cons p l2 =>
      simp only [List.length_cons] at hlen
      obtain ⟨z1, z2, z3⟩ := hn l1.length p (by rw [ht, List.append_nil, List.getElem?_append_right (by omega), Nat.sub_self]; rfl)
      rw [Nat.zero_add] at z1 z2
      have hp := hl p l2 rfl
      have p60 : p.1 < 60 := rep_lt hI.1 _ (dps_mem t 0 p (by rw [ht]; simp))
      rw [if_neg (nI_ge (by omega) (by omega)), if_neg (nI_ne0 (by omega) (by omega)), if_neg (nI_nin (by omega) (by omega)), nI_cl (by omega : l1.length < 60), z1, if_neg (nI_nin p60 (by omega)), if_neg (nI_nin s60 (by omega)), nI_cl p60, nI_cl s60, z3, hab, if_pos (nI_le hp (by omega))]
      rfl
  | p :: m, l1, l2, x, n, ht, hx, hx1, hm, hl, hln => by
    obtain ⟨n, rfl⟩ : ∃ z, n = z + 1 := ⟨n - 1, by omega⟩
    simp only [List.length_cons] at hln
    have hlen : (tsl t).length = l1.length + (m.length + 1 + l2.length) := by rw [← dps_len t 0, ht]; simp; omega
    have h60 := hI.2.2.2.2.2.2.2.2.2
    obtain ⟨z1, z2, z3⟩ := hn l1.length p (by rw [ht, List.append_assoc, List.getElem?_append_right (by omega), Nat.sub_self]; rfl)
    rw [Nat.zero_add] at z1 z2
    have hp := hm p (by simp)
    have hpm : p ∈ dps t 0 := by rw [ht]; simp
    have p60 : p.1 < 60 := rep_lt hI.1 _ (dps_mem t 0 p hpm)
    obtain ⟨c, r, k, a, b, et, hc, -, hr, hrc, hc60⟩ := ctx_of hI.str (show (p.1, p.2) ∈ dps t 0 from hpm)
    rw [fX9_sizeOf_9, mg_many, Option.bind_some, hI.2.2.2.2.2.2.2.2.1, nI_add, show x + (l1.length - x) = l1.length by omega, if_neg (nI_ge (by omega) (by omega)), if_neg (nI_ne0 (by omega) (by omega)), if_neg (nI_nin (by omega) (by omega)), nI_cl (by omega : l1.length < 60), z1, if_neg (nI_nin p60 (by omega)), if_neg (nI_nin s60 (by omega)), nI_cl p60, nI_cl s60, z3, hab, if_neg (nI_ge hp (by omega)), nI_1]
    have := size_mo hI hn s60 hab hd (F := F) m (l1 ++ [p]) l2 x n (by rw [ht]; simp) (by simp; omega) (by simp; omega) (fun q hq => hm q (by simp [hq])) hl (by omega)
    rw [List.length_append, List.length_singleton] at this
    rw [show l1.length - x + 1 = l1.length + 1 - x by omega, this, List.length_cons]
    congr 2
    omega
